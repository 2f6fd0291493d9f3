set_option maxHeartbeats 4000000 in
set_option maxRecDepth 100000 in
theorem kt_M_reckon (l : Launch) (dC : Nat → ClassId) (dI : Nat → Nat → Nat) (cJ cI cZ cB : ClassId) (h1 pB pW pS pA pQ pC pR pT pD : Nat) (sz : Nat) (a1 : Int32) (a2 : Int32) (a3 : Int32) (kb : (Nat → Int32)) (kw : (Nat → Int32)) (ks : (Nat → Int32)) (ka : (Nat → Int32)) (kq : (Nat → Int32)) (kc : (Nat → Int32)) (kr : (Nat → Int32)) (kt : (Nat → Int32)) (kd : (Nat → Int32)) (many : Int32) (tsz : Int32) (thr : Int32) (post : (Nat → Int32) → (Nat → Int32) → (Nat → Int32) → (Nat → Int32) → (Nat → Int32) → (Nat → Int32) → (Nat → Int32) → (Nat → Int32) → (Nat → Int32) → Int32 → Int32 → Int32 → Prop) (hw : wp_M_reckon post a1 a2 a3 kb kw ks ka kq kc kr kt kd many tsz thr) : Met l yn_M_reckon ws_M_reckon rm_M_reckon (va_Pc [.ref h1, .int a1, .int a2, .int a3] (pc_W (dC, dI) (ty_4 cJ cI cZ cB) (wd_M h1 pB pW pS pA pQ pC pR pT pD cJ cI cZ cB kb kw ks ka kq kc kr kt kd many tsz thr) sz)) (qv_M dC dI cJ cI cZ cB h1 pB pW pS pA pQ pC pR pT pD post (va_A (wd_M h1 pB pW pS pA pQ pC pR pT pD cJ cI cZ cB kb kw ks ka kq kc kr kt kd many tsz thr) sz)) 0 0 (va_A (wd_M h1 pB pW pS pA pQ pC pR pT pD cJ cI cZ cB kb kw ks ka kq kc kr kt kd many tsz thr) sz) := by
  refine Met.ofW (cc := cd_M_reckon) (maxL := 5) (ret := none) (by decide) rfl ?_
  intro p e s m args below meth c s₁ B hml hv
  obtain ⟨rfl, hsz, hP, hK, hD0, hE⟩ := hv
  have hx := B.exec
  have hb := B.bytes
  have hr := B.returns
  have hts := atoms_spec (ws := ws_M_reckon) B.pre
  have hq : ∀ {w : Cond}, w ∈ wg_all → w.before ([.ref h1, .int a1, .int a2, .int a3] : List Value).toArray s = true := fun h => hts _ (List.mem_cons_of_mem _ h)
  have hu : ∀ L : List Cond, (∀ w ∈ L, w ∈ wg_all) → ∀ w ∈ L, w ∈ ws_M_reckon := fun L h w hw => List.mem_cons_of_mem _ (h w hw)
  have hown : s.vm.findClass "FourWordsModel" = some m.cls := findClass_of_methodNamed B.named
  have hlocks := B.notSynchronized
  subst hsz
  have hD := hD0.self (sz := s.heap.size)
  generalize hAe : va_A (wd_M h1 pB pW pS pA pQ pC pR pT pD cJ cI cZ cB kb kw ks ka kq kc kr kt kd many tsz thr) s.heap.size = A at hD ⊢
  have hA : ∀ q : Nat, s.heap.size ≤ q → A q := fun q h => by rw [← hAe]; exact Or.inr h
  have hS : va_S A s.heap s.heap [] := va_S.rf
  have hl := lv_entry [.ref h1, .int a1, .int a2, .int a3] (n := 5) (Nat.le_of_ble_eq_true rfl)
  rw [lg_entry_eq]
  generalize (lg_sl [.ref h1, .int a1, .int a2, .int a3] ++ List.replicate (5 - (lg_sl [.ref h1, .int a1, .int a2, .int a3]).length) Slot.unset).toArray = ls at hl ⊢
  have hl : lv_has ls 5 [(0, .ref h1), (1, .int a1), (2, .int a2), (3, .int a3)] := hl
  have B_151 : ∀ (H : Heap) (locs : List Loc) (ls : Array Slot) (kb : (Nat → Int32)) (kw : (Nat → Int32)) (ks : (Nat → Int32)) (ka : (Nat → Int32)) (kq : (Nat → Int32)) (kc : (Nat → Int32)) (kr : (Nat → Int32)) (kt : (Nat → Int32)) (kd : (Nat → Int32)) (many : Int32) (tsz : Int32) (thr : Int32), wp_M_reckon_151 post kb kw ks ka kq kc kr kt kd many tsz thr → va_P (dC, dI) cs_3 (wd_M h1 pB pW pS pA pQ pC pR pT pD cJ cI cZ cB kb kw ks ka kq kc kr kt kd many tsz thr) H → va_D A (wd_M h1 pB pW pS pA pQ pC pR pT pD cJ cI cZ cB kb kw ks ka kq kc kr kt kd many tsz thr) → va_S A s.heap H locs → lv_has ls 5 [] → W p l e (headSpec ws_M_reckon rm_M_reckon).room s m ([.ref h1, .int a1, .int a2, .int a3] : List Value).toArray below meth c H locs 0 0 (MQ below (qv_M dC dI cJ cI cZ cB h1 pB pW pS pA pQ pC pR pT pD post A) ([.ref h1, .int a1, .int a2, .int a3] : List Value).toArray s 0 0 A) (F0 m 151 ls []) := by
    intro H locs ls kb kw ks ka kq kc kr kt kd many tsz thr hw hP hD hS hl
    unfold wp_M_reckon_151 at hw
    exact W.vret hx hb hr (fun t ht hW => ⟨⟨(kb, kw, ks, ka, kq, kc, kr, kt, kd, many, tsz, thr), rfl, hw, by rw [ht]; exact hP, va_K.moved hW.alike hK, hD⟩, hS.F ht⟩) hS.2.2 dc_M_reckon_151
  have B_82 : ∀ (n82 : Nat) (H : Heap) (locs : List Loc) (ls : Array Slot) (x3 : Int32) (x4 : Int32) (kb : (Nat → Int32)) (kw : (Nat → Int32)) (ks : (Nat → Int32)) (ka : (Nat → Int32)) (kq : (Nat → Int32)) (kc : (Nat → Int32)) (kr : (Nat → Int32)) (kt : (Nat → Int32)) (kd : (Nat → Int32)) (many : Int32) (tsz : Int32) (thr : Int32), wp_M_reckon_82 post n82 x3 x4 kb kw ks ka kq kc kr kt kd many tsz thr → va_P (dC, dI) cs_3 (wd_M h1 pB pW pS pA pQ pC pR pT pD cJ cI cZ cB kb kw ks ka kq kc kr kt kd many tsz thr) H → va_D A (wd_M h1 pB pW pS pA pQ pC pR pT pD cJ cI cZ cB kb kw ks ka kq kc kr kt kd many tsz thr) → va_S A s.heap H locs → lv_has ls 5 [(0, .ref h1), (3, .int x3), (4, .int x4)] → W p l e (headSpec ws_M_reckon rm_M_reckon).room s m ([.ref h1, .int a1, .int a2, .int a3] : List Value).toArray below meth c H locs 0 0 (MQ below (qv_M dC dI cJ cI cZ cB h1 pB pW pS pA pQ pC pR pT pD post A) ([.ref h1, .int a1, .int a2, .int a3] : List Value).toArray s 0 0 A) (F0 m 82 ls []) := by
    intro n82
    induction n82 with
    | zero => intro H locs ls x3 x4 kb kw ks ka kq kc kr kt kd many tsz thr hw; exact False.elim hw
    | succ n82 ih =>
      intro H locs ls x3 x4 kb kw ks ka kq kc kr kt kd many tsz thr hw hP hD hS hl
      unfold wp_M_reckon_82 at hw
      refine lv_iload hx hb dc_M_reckon_82 (lv_at hl 2 rfl) ?_
      refine lv_iload_n hx hb dc_M_reckon_84 rfl (lv_at hl 1 rfl) ?_
      obtain ⟨hw1, hw2⟩ := hw
      refine lv_icmp_ge (tgt := 111) hx hb dc_M_reckon_85 (by decide) (fun hc => ?_) (fun hc => ?_)
      · have hw := hw1 hc
        clear hw1 hw2
        refine lv_aload_n hx hb dc_M_reckon_111 rfl (lv_at hl 0 rfl) ?_
        refine va_get (D := (dC, dI)) (ci := 2) (v := .ref pA) (C := "FourWordsModel") (T := tb_M) (N := 12) hx hb hts (hu _ um_M) hown hK hP 0 rfl rfl 3 (by decide) (hq mw_t463) (fun _ h9 => h9) rfl dc_M_reckon_112 ?_
        refine lv_aload_n hx hb dc_M_reckon_115 rfl (lv_at hl 0 rfl) ?_
        refine va_get (D := (dC, dI)) (ci := 2) (v := .ref pQ) (C := "FourWordsModel") (T := tb_M) (N := 12) hx hb hts (hu _ um_M) hown hK hP 0 rfl rfl 4 (by decide) (hq mw_t464) (fun _ h9 => h9) rfl dc_M_reckon_116 ?_
        refine lv_aload_n hx hb dc_M_reckon_119 rfl (lv_at hl 0 rfl) ?_
        refine va_get (D := (dC, dI)) (ci := 2) (v := .ref pC) (C := "FourWordsModel") (T := tb_M) (N := 12) hx hb hts (hu _ um_M) hown hK hP 0 rfl rfl 5 (by decide) (hq mw_t465) (fun _ h9 => h9) rfl dc_M_reckon_120 ?_
        refine lv_iload_n hx hb dc_M_reckon_123 rfl (lv_at hl 1 rfl) ?_
        refine lv_iconst (v := 1) hx hb dc_M_reckon_124 (by decide) ?_
        refine gc_v (S := (Nat → Int32) × (Nat → Int32) × (Nat → Int32)) (w1 := (fun u => (wd_T pA pQ pC cJ cI cZ cB u.1 u.2.1 u.2.2))) (wc := (wd_T pA pQ pC cJ cI cZ cB ka kq kc)) (wr := ([(h1, .inr (2, [.ref pB, .ref pW, .ref pS, .ref pA, .ref pQ, .ref pC, .ref pR, .ref pT, .int many, .int tsz, .int thr, .ref pD])), (pB, .inl (cB, 4096, .inl kb)), (pW, .inl (cI, 64, .inl kw)), (pS, .inl (cZ, 64, .inl ks)), (pR, .inl (cB, 65, .inl kr)), (pT, .inl (cB, 80, .inl kt)), (pD, .inl (cB, 24, .inl kd))] : va_W)) (va_runS (As := [.ref pA, .ref pQ, .ref pC, .int x3, .int (1 : Int32)]) (rest := []) ⟨hx, hb, hml, hown, hts⟩ (kt_M_add l dC dI cJ cI cZ cB pA pQ pC _ x3 (1 : Int32) ka kq kc _ hw) ⟨callB_of 5 hts (gw_in mw_t541) rfl rfl rfl (hq mw_t3) (hq mw_t539) (by decide +kernel) ⟨Nat.le_of_ble_eq_true rfl, Nat.le_of_ble_eq_true rfl⟩, hq mw_t540⟩ (ps_W (hP.sub (ws' := (wd_T pA pQ pC cJ cI cZ cB ka kq kc)) [4, 5, 6] rfl) hK (hD.sub (ws' := (wd_T pA pQ pC cJ cI cZ cB ka kq kc)) [4, 5, 6] (by decide) rfl) hE) rfl rfl hl.1 rfl (lv_room (Nat.le_of_ble_eq_true rfl)) dc_M_reckon_125 ⟨Nat.le_of_ble_eq_true rfl, Nat.le_of_ble_eq_true rfl⟩) hP hD hS hA [4, 5, 6] [0, 1, 2, 3, 7, 8, 9] rfl rfl (by decide) (by decide) (fun u H locs hw hP hD hS => ?_)
        obtain ⟨ka125, kq125, kc125⟩ := u
        have hP : va_P (dC, dI) cs_3 (wd_M h1 pB pW pS pA pQ pC pR pT pD cJ cI cZ cB kb kw ks ka125 kq125 kc125 kr kt kd many tsz thr) H := hP.sub (ws' := (wd_M h1 pB pW pS pA pQ pC pR pT pD cJ cI cZ cB kb kw ks ka125 kq125 kc125 kr kt kd many tsz thr)) [0, 1, 2, 3, 7, 8, 9, 4, 5, 6] rfl
        have hD : va_D A (wd_M h1 pB pW pS pA pQ pC pR pT pD cJ cI cZ cB kb kw ks ka125 kq125 kc125 kr kt kd many tsz thr) := hD.sub (ws' := (wd_M h1 pB pW pS pA pQ pC pR pT pD cJ cI cZ cB kb kw ks ka125 kq125 kc125 kr kt kd many tsz thr)) [0, 1, 2, 3, 7, 8, 9, 4, 5, 6] (by decide) rfl
        try dsimp only at hw
        refine lv_goto (tgt := 151) hx hb dc_M_reckon_128 (by decide) ?_
        exact B_151 _ _ _ kb kw ks ka125 kq125 kc125 kr kt kd many tsz thr hw hP hD hS (lv_sub hl [] rfl)
      · have hw := hw2 hc
        clear hw1 hw2
        refine lv_aload_n hx hb dc_M_reckon_88 rfl (lv_at hl 0 rfl) ?_
        refine va_get (D := (dC, dI)) (ci := 2) (v := .ref pQ) (C := "FourWordsModel") (T := tb_M) (N := 12) hx hb hts (hu _ um_M) hown hK hP 0 rfl rfl 4 (by decide) (hq mw_t464) (fun _ h9 => h9) rfl dc_M_reckon_89 ?_
        refine lv_iload hx hb dc_M_reckon_92 (lv_at hl 2 rfl) ?_
        refine lv_iconst (v := 1) hx hb dc_M_reckon_94 (by decide) ?_
        refine lv_aload_n hx hb dc_M_reckon_95 rfl (lv_at hl 0 rfl) ?_
        refine va_get (D := (dC, dI)) (ci := 2) (v := .ref pQ) (C := "FourWordsModel") (T := tb_M) (N := 12) hx hb hts (hu _ um_M) hown hK hP 0 rfl rfl 4 (by decide) (hq mw_t464) (fun _ h9 => h9) rfl dc_M_reckon_96 ?_
        refine lv_iload hx hb dc_M_reckon_99 (lv_at hl 2 rfl) ?_
        obtain ⟨hin, hw⟩ := hw
        refine va_bald hx hb hK hP 5 3 rfl rfl hin dc_M_reckon_101 ?_
        refine lv_isub hx hb dc_M_reckon_102 ?_
        refine lv_i2b hx hb dc_M_reckon_103 rfl ?_
        obtain ⟨hin, hw⟩ := hw
        refine va_bast hx hb hK hP hD hS 5 3 rfl rfl hin dc_M_reckon_104 (fun H locs hP hD hS => ?_)
        have hP : va_P (dC, dI) cs_3 (wd_M h1 pB pW pS pA pQ pC pR pT pD cJ cI cZ cB kb kw ks ka (upd kq x4.toNatClampNeg (vp_nar .byte (((1 : Int32) - (kq x4.toNatClampNeg)).toInt8.toInt32))) kc kr kt kd many tsz thr) H := hP
        have hD : va_D A (wd_M h1 pB pW pS pA pQ pC pR pT pD cJ cI cZ cB kb kw ks ka (upd kq x4.toNatClampNeg (vp_nar .byte (((1 : Int32) - (kq x4.toNatClampNeg)).toInt8.toInt32))) kc kr kt kd many tsz thr) := hD
        refine lv_iinc (lv' := [(4, .int (x4 + 1)), (0, .ref h1), (3, .int x3)]) hx hb dc_M_reckon_105 hl (k := 2) rfl (ic_p1 _) (Nat.le_of_ble_eq_true rfl) rfl (fun ls hl => ?_)
        refine lv_goto (tgt := 82) hx hb dc_M_reckon_108 (by decide) ?_
        exact ih _ _ _ x3 (x4 + 1) kb kw ks ka (upd kq x4.toNatClampNeg (vp_nar .byte (((1 : Int32) - (kq x4.toNatClampNeg)).toInt8.toInt32))) kc kr kt kd many tsz thr hw hP hD hS (lv_sub hl [1, 2, 0] rfl)
  have B_50 : ∀ (H : Heap) (locs : List Loc) (ls : Array Slot) (x1 : Int32) (x2 : Int32) (x3 : Int32) (kb : (Nat → Int32)) (kw : (Nat → Int32)) (ks : (Nat → Int32)) (ka : (Nat → Int32)) (kq : (Nat → Int32)) (kc : (Nat → Int32)) (kr : (Nat → Int32)) (kt : (Nat → Int32)) (kd : (Nat → Int32)) (many : Int32) (tsz : Int32) (thr : Int32), wp_M_reckon_50 post x1 x2 x3 kb kw ks ka kq kc kr kt kd many tsz thr → va_P (dC, dI) cs_3 (wd_M h1 pB pW pS pA pQ pC pR pT pD cJ cI cZ cB kb kw ks ka kq kc kr kt kd many tsz thr) H → va_D A (wd_M h1 pB pW pS pA pQ pC pR pT pD cJ cI cZ cB kb kw ks ka kq kc kr kt kd many tsz thr) → va_S A s.heap H locs → lv_has ls 5 [(0, .ref h1), (1, .int x1), (2, .int x2), (3, .int x3)] → W p l e (headSpec ws_M_reckon rm_M_reckon).room s m ([.ref h1, .int a1, .int a2, .int a3] : List Value).toArray below meth c H locs 0 0 (MQ below (qv_M dC dI cJ cI cZ cB h1 pB pW pS pA pQ pC pR pT pD post A) ([.ref h1, .int a1, .int a2, .int a3] : List Value).toArray s 0 0 A) (F0 m 50 ls []) := by
    intro H locs ls x1 x2 x3 kb kw ks ka kq kc kr kt kd many tsz thr hw hP hD hS hl
    unfold wp_M_reckon_50 at hw
    refine lv_iload_n hx hb dc_M_reckon_50 rfl (lv_at hl 1 rfl) ?_
    obtain ⟨hw1, hw2⟩ := hw
    refine lv_if_ne (tgt := 74) hx hb dc_M_reckon_51 (by decide) (fun hc => ?_) (fun hc => ?_)
    · have hw := hw1 hc
      clear hw1 hw2
      refine lv_iload_n hx hb dc_M_reckon_74 rfl (lv_at hl 1 rfl) ?_
      refine lv_iconst (v := 1) hx hb dc_M_reckon_75 (by decide) ?_
      obtain ⟨hw1, hw2⟩ := hw
      refine lv_icmp_ne (tgt := 131) hx hb dc_M_reckon_76 (by decide) (fun hc => ?_) (fun hc => ?_)
      · have hw := hw1 hc
        clear hw1 hw2
        refine lv_iload_n hx hb dc_M_reckon_131 rfl (lv_at hl 1 rfl) ?_
        refine lv_iconst (v := 2) hx hb dc_M_reckon_132 (by decide) ?_
        obtain ⟨hw1, hw2⟩ := hw
        refine lv_icmp_ne (tgt := 144) hx hb dc_M_reckon_133 (by decide) (fun hc => ?_) (fun hc => ?_)
        · have hw := hw1 hc
          clear hw1 hw2
          refine lv_aload_n hx hb dc_M_reckon_144 rfl (lv_at hl 0 rfl) ?_
          refine lv_iload_n hx hb dc_M_reckon_145 rfl (lv_at hl 1 rfl) ?_
          refine lv_iload_n hx hb dc_M_reckon_146 rfl (lv_at hl 2 rfl) ?_
          refine lv_iload_n hx hb dc_M_reckon_147 rfl (lv_at hl 3 rfl) ?_
          refine gc_v (S := (Nat → Int32) × (Nat → Int32) × (Nat → Int32) × (Nat → Int32) × (Nat → Int32) × (Nat → Int32) × (Nat → Int32) × (Nat → Int32) × (Nat → Int32) × Int32 × Int32 × Int32) (w1 := (fun u => (wd_M h1 pB pW pS pA pQ pC pR pT pD cJ cI cZ cB u.1 u.2.1 u.2.2.1 u.2.2.2.1 u.2.2.2.2.1 u.2.2.2.2.2.1 u.2.2.2.2.2.2.1 u.2.2.2.2.2.2.2.1 u.2.2.2.2.2.2.2.2.1 u.2.2.2.2.2.2.2.2.2.1 u.2.2.2.2.2.2.2.2.2.2.1 u.2.2.2.2.2.2.2.2.2.2.2))) (wc := (wd_M h1 pB pW pS pA pQ pC pR pT pD cJ cI cZ cB kb kw ks ka kq kc kr kt kd many tsz thr)) (wr := ([] : va_W)) (va_runV (As := [.int x1, .int x2, .int x3]) (rest := []) ⟨hx, hb, hml, hown, hts⟩ (kt_M_quotient l dC dI cJ cI cZ cB h1 pB pW pS pA pQ pC pR pT pD _ x1 x2 x3 kb kw ks ka kq kc kr kt kd many tsz thr _ hw) ⟨callB_of 3 hts (gw_in mw_t549) rfl rfl rfl (hq mw_t3) (hq mw_t546) (by decide +kernel) ⟨Nat.le_of_ble_eq_true rfl, Nat.le_of_ble_eq_true rfl⟩, hq mw_t548, hq mw_s40⟩ (pv_W (va_recv (q0 := 0) (ci := 2) hK hP rfl rfl) (hP.sub (ws' := (wd_M h1 pB pW pS pA pQ pC pR pT pD cJ cI cZ cB kb kw ks ka kq kc kr kt kd many tsz thr)) [0, 1, 2, 3, 4, 5, 6, 7, 8, 9] rfl) hK (hD.sub (ws' := (wd_M h1 pB pW pS pA pQ pC pR pT pD cJ cI cZ cB kb kw ks ka kq kc kr kt kd many tsz thr)) [0, 1, 2, 3, 4, 5, 6, 7, 8, 9] (by decide) rfl) hE) rfl rfl hl.1 rfl (lv_room (Nat.le_of_ble_eq_true rfl)) dc_M_reckon_148 ⟨Nat.le_of_ble_eq_true rfl, Nat.le_of_ble_eq_true rfl⟩) hP hD hS hA [0, 1, 2, 3, 4, 5, 6, 7, 8, 9] [] rfl rfl (by decide) (by decide) (fun u H locs hw hP hD hS => ?_)
          obtain ⟨kb148, kw148, ks148, ka148, kq148, kc148, kr148, kt148, kd148, many148, tsz148, thr148⟩ := u
          have hP : va_P (dC, dI) cs_3 (wd_M h1 pB pW pS pA pQ pC pR pT pD cJ cI cZ cB kb148 kw148 ks148 ka148 kq148 kc148 kr148 kt148 kd148 many148 tsz148 thr148) H := hP.sub (ws' := (wd_M h1 pB pW pS pA pQ pC pR pT pD cJ cI cZ cB kb148 kw148 ks148 ka148 kq148 kc148 kr148 kt148 kd148 many148 tsz148 thr148)) [0, 1, 2, 3, 4, 5, 6, 7, 8, 9] rfl
          have hD : va_D A (wd_M h1 pB pW pS pA pQ pC pR pT pD cJ cI cZ cB kb148 kw148 ks148 ka148 kq148 kc148 kr148 kt148 kd148 many148 tsz148 thr148) := hD.sub (ws' := (wd_M h1 pB pW pS pA pQ pC pR pT pD cJ cI cZ cB kb148 kw148 ks148 ka148 kq148 kc148 kr148 kt148 kd148 many148 tsz148 thr148)) [0, 1, 2, 3, 4, 5, 6, 7, 8, 9] (by decide) rfl
          try dsimp only at hw
          exact B_151 _ _ _ kb148 kw148 ks148 ka148 kq148 kc148 kr148 kt148 kd148 many148 tsz148 thr148 hw hP hD hS (lv_sub hl [] rfl)
        · have hw := hw2 (fun h9 => h9 hc)
          clear hw1 hw2
          refine lv_aload_n hx hb dc_M_reckon_136 rfl (lv_at hl 0 rfl) ?_
          refine lv_iload_n hx hb dc_M_reckon_137 rfl (lv_at hl 3 rfl) ?_
          refine gc_v (S := (Nat → Int32) × (Nat → Int32) × (Nat → Int32) × (Nat → Int32) × (Nat → Int32) × (Nat → Int32) × (Nat → Int32) × (Nat → Int32) × (Nat → Int32) × Int32 × Int32 × Int32) (w1 := (fun u => (wd_M h1 pB pW pS pA pQ pC pR pT pD cJ cI cZ cB u.1 u.2.1 u.2.2.1 u.2.2.2.1 u.2.2.2.2.1 u.2.2.2.2.2.1 u.2.2.2.2.2.2.1 u.2.2.2.2.2.2.2.1 u.2.2.2.2.2.2.2.2.1 u.2.2.2.2.2.2.2.2.2.1 u.2.2.2.2.2.2.2.2.2.2.1 u.2.2.2.2.2.2.2.2.2.2.2))) (wc := (wd_M h1 pB pW pS pA pQ pC pR pT pD cJ cI cZ cB kb kw ks ka kq kc kr kt kd many tsz thr)) (wr := ([] : va_W)) (va_runV (As := [.int x3]) (rest := []) ⟨hx, hb, hml, hown, hts⟩ (kt_M_multiply l dC dI cJ cI cZ cB h1 pB pW pS pA pQ pC pR pT pD _ x3 kb kw ks ka kq kc kr kt kd many tsz thr _ hw) ⟨callB_of 1 hts (gw_in mw_t545) rfl rfl rfl (hq mw_t3) (hq mw_t542) (by decide +kernel) ⟨Nat.le_of_ble_eq_true rfl, Nat.le_of_ble_eq_true rfl⟩, hq mw_t544, hq mw_s39⟩ (pv_W (va_recv (q0 := 0) (ci := 2) hK hP rfl rfl) (hP.sub (ws' := (wd_M h1 pB pW pS pA pQ pC pR pT pD cJ cI cZ cB kb kw ks ka kq kc kr kt kd many tsz thr)) [0, 1, 2, 3, 4, 5, 6, 7, 8, 9] rfl) hK (hD.sub (ws' := (wd_M h1 pB pW pS pA pQ pC pR pT pD cJ cI cZ cB kb kw ks ka kq kc kr kt kd many tsz thr)) [0, 1, 2, 3, 4, 5, 6, 7, 8, 9] (by decide) rfl) hE) rfl rfl hl.1 rfl (lv_room (Nat.le_of_ble_eq_true rfl)) dc_M_reckon_138 ⟨Nat.le_of_ble_eq_true rfl, Nat.le_of_ble_eq_true rfl⟩) hP hD hS hA [0, 1, 2, 3, 4, 5, 6, 7, 8, 9] [] rfl rfl (by decide) (by decide) (fun u H locs hw hP hD hS => ?_)
          obtain ⟨kb138, kw138, ks138, ka138, kq138, kc138, kr138, kt138, kd138, many138, tsz138, thr138⟩ := u
          have hP : va_P (dC, dI) cs_3 (wd_M h1 pB pW pS pA pQ pC pR pT pD cJ cI cZ cB kb138 kw138 ks138 ka138 kq138 kc138 kr138 kt138 kd138 many138 tsz138 thr138) H := hP.sub (ws' := (wd_M h1 pB pW pS pA pQ pC pR pT pD cJ cI cZ cB kb138 kw138 ks138 ka138 kq138 kc138 kr138 kt138 kd138 many138 tsz138 thr138)) [0, 1, 2, 3, 4, 5, 6, 7, 8, 9] rfl
          have hD : va_D A (wd_M h1 pB pW pS pA pQ pC pR pT pD cJ cI cZ cB kb138 kw138 ks138 ka138 kq138 kc138 kr138 kt138 kd138 many138 tsz138 thr138) := hD.sub (ws' := (wd_M h1 pB pW pS pA pQ pC pR pT pD cJ cI cZ cB kb138 kw138 ks138 ka138 kq138 kc138 kr138 kt138 kd138 many138 tsz138 thr138)) [0, 1, 2, 3, 4, 5, 6, 7, 8, 9] (by decide) rfl
          try dsimp only at hw
          refine lv_goto (tgt := 151) hx hb dc_M_reckon_141 (by decide) ?_
          exact B_151 _ _ _ kb138 kw138 ks138 ka138 kq138 kc138 kr138 kt138 kd138 many138 tsz138 thr138 hw hP hD hS (lv_sub hl [] rfl)
      · have hw := hw2 (fun h9 => h9 hc)
        clear hw1 hw2
        refine lv_iconst (v := 0) hx hb dc_M_reckon_79 (by decide) ?_
        refine lv_istore (lv' := [(4, .int (0 : Int32)), (0, .ref h1), (1, .int x1), (2, .int x2), (3, .int x3)]) hx hb dc_M_reckon_80 hl (Nat.le_of_ble_eq_true rfl) rfl (fun ls hl => ?_)
        obtain ⟨n82, hw⟩ := hw
        exact B_82 n82 _ _ _ x3 (0 : Int32) kb kw ks ka kq kc kr kt kd many tsz thr hw hP hD hS (lv_sub hl [1, 4, 0] rfl)
    · have hw := hw2 (fun h9 => h9 hc)
      clear hw1 hw2
      refine lv_aload_n hx hb dc_M_reckon_54 rfl (lv_at hl 0 rfl) ?_
      refine va_get (D := (dC, dI)) (ci := 2) (v := .ref pA) (C := "FourWordsModel") (T := tb_M) (N := 12) hx hb hts (hu _ um_M) hown hK hP 0 rfl rfl 3 (by decide) (hq mw_t463) (fun _ h9 => h9) rfl dc_M_reckon_55 ?_
      refine lv_aload_n hx hb dc_M_reckon_58 rfl (lv_at hl 0 rfl) ?_
      refine va_get (D := (dC, dI)) (ci := 2) (v := .ref pQ) (C := "FourWordsModel") (T := tb_M) (N := 12) hx hb hts (hu _ um_M) hown hK hP 0 rfl rfl 4 (by decide) (hq mw_t464) (fun _ h9 => h9) rfl dc_M_reckon_59 ?_
      refine lv_aload_n hx hb dc_M_reckon_62 rfl (lv_at hl 0 rfl) ?_
      refine va_get (D := (dC, dI)) (ci := 2) (v := .ref pC) (C := "FourWordsModel") (T := tb_M) (N := 12) hx hb hts (hu _ um_M) hown hK hP 0 rfl rfl 5 (by decide) (hq mw_t465) (fun _ h9 => h9) rfl dc_M_reckon_63 ?_
      refine lv_iload_n hx hb dc_M_reckon_66 rfl (lv_at hl 3 rfl) ?_
      refine lv_iconst (v := 0) hx hb dc_M_reckon_67 (by decide) ?_
      refine gc_v (S := (Nat → Int32) × (Nat → Int32) × (Nat → Int32)) (w1 := (fun u => (wd_T pA pQ pC cJ cI cZ cB u.1 u.2.1 u.2.2))) (wc := (wd_T pA pQ pC cJ cI cZ cB ka kq kc)) (wr := ([(h1, .inr (2, [.ref pB, .ref pW, .ref pS, .ref pA, .ref pQ, .ref pC, .ref pR, .ref pT, .int many, .int tsz, .int thr, .ref pD])), (pB, .inl (cB, 4096, .inl kb)), (pW, .inl (cI, 64, .inl kw)), (pS, .inl (cZ, 64, .inl ks)), (pR, .inl (cB, 65, .inl kr)), (pT, .inl (cB, 80, .inl kt)), (pD, .inl (cB, 24, .inl kd))] : va_W)) (va_runS (As := [.ref pA, .ref pQ, .ref pC, .int x3, .int (0 : Int32)]) (rest := []) ⟨hx, hb, hml, hown, hts⟩ (kt_M_add l dC dI cJ cI cZ cB pA pQ pC _ x3 (0 : Int32) ka kq kc _ hw) ⟨callB_of 5 hts (gw_in mw_t541) rfl rfl rfl (hq mw_t3) (hq mw_t539) (by decide +kernel) ⟨Nat.le_of_ble_eq_true rfl, Nat.le_of_ble_eq_true rfl⟩, hq mw_t540⟩ (ps_W (hP.sub (ws' := (wd_T pA pQ pC cJ cI cZ cB ka kq kc)) [4, 5, 6] rfl) hK (hD.sub (ws' := (wd_T pA pQ pC cJ cI cZ cB ka kq kc)) [4, 5, 6] (by decide) rfl) hE) rfl rfl hl.1 rfl (lv_room (Nat.le_of_ble_eq_true rfl)) dc_M_reckon_68 ⟨Nat.le_of_ble_eq_true rfl, Nat.le_of_ble_eq_true rfl⟩) hP hD hS hA [4, 5, 6] [0, 1, 2, 3, 7, 8, 9] rfl rfl (by decide) (by decide) (fun u H locs hw hP hD hS => ?_)
      obtain ⟨ka68, kq68, kc68⟩ := u
      have hP : va_P (dC, dI) cs_3 (wd_M h1 pB pW pS pA pQ pC pR pT pD cJ cI cZ cB kb kw ks ka68 kq68 kc68 kr kt kd many tsz thr) H := hP.sub (ws' := (wd_M h1 pB pW pS pA pQ pC pR pT pD cJ cI cZ cB kb kw ks ka68 kq68 kc68 kr kt kd many tsz thr)) [0, 1, 2, 3, 7, 8, 9, 4, 5, 6] rfl
      have hD : va_D A (wd_M h1 pB pW pS pA pQ pC pR pT pD cJ cI cZ cB kb kw ks ka68 kq68 kc68 kr kt kd many tsz thr) := hD.sub (ws' := (wd_M h1 pB pW pS pA pQ pC pR pT pD cJ cI cZ cB kb kw ks ka68 kq68 kc68 kr kt kd many tsz thr)) [0, 1, 2, 3, 7, 8, 9, 4, 5, 6] (by decide) rfl
      try dsimp only at hw
      refine lv_goto (tgt := 151) hx hb dc_M_reckon_71 (by decide) ?_
      exact B_151 _ _ _ kb kw ks ka68 kq68 kc68 kr kt kd many tsz thr hw hP hD hS (lv_sub hl [] rfl)
  have B_38 : ∀ (H : Heap) (locs : List Loc) (ls : Array Slot) (x3 : Int32) (kb : (Nat → Int32)) (kw : (Nat → Int32)) (ks : (Nat → Int32)) (ka : (Nat → Int32)) (kq : (Nat → Int32)) (kc : (Nat → Int32)) (kr : (Nat → Int32)) (kt : (Nat → Int32)) (kd : (Nat → Int32)) (many : Int32) (tsz : Int32) (thr : Int32), wp_M_reckon_38 post x3 kb kw ks ka kq kc kr kt kd many tsz thr → va_P (dC, dI) cs_3 (wd_M h1 pB pW pS pA pQ pC pR pT pD cJ cI cZ cB kb kw ks ka kq kc kr kt kd many tsz thr) H → va_D A (wd_M h1 pB pW pS pA pQ pC pR pT pD cJ cI cZ cB kb kw ks ka kq kc kr kt kd many tsz thr) → va_S A s.heap H locs → lv_has ls 5 [(0, .ref h1), (3, .int x3)] → W p l e (headSpec ws_M_reckon rm_M_reckon).room s m ([.ref h1, .int a1, .int a2, .int a3] : List Value).toArray below meth c H locs 0 0 (MQ below (qv_M dC dI cJ cI cZ cB h1 pB pW pS pA pQ pC pR pT pD post A) ([.ref h1, .int a1, .int a2, .int a3] : List Value).toArray s 0 0 A) (F0 m 38 ls []) := by
    intro H locs ls x3 kb kw ks ka kq kc kr kt kd many tsz thr hw hP hD hS hl
    unfold wp_M_reckon_38 at hw
    refine lv_aload_n hx hb dc_M_reckon_38 rfl (lv_at hl 0 rfl) ?_
    refine va_get (D := (dC, dI)) (ci := 2) (v := .ref pC) (C := "FourWordsModel") (T := tb_M) (N := 12) hx hb hts (hu _ um_M) hown hK hP 0 rfl rfl 5 (by decide) (hq mw_t465) (fun _ h9 => h9) rfl dc_M_reckon_39 ?_
    refine lv_iload_n hx hb dc_M_reckon_42 rfl (lv_at hl 1 rfl) ?_
    refine lv_iconst (v := 3) hx hb dc_M_reckon_43 (by decide) ?_
    refine gc_v (S := (Nat → Int32)) (w1 := (fun u => (wd_A pC cJ cI cZ cB u))) (wc := (wd_A pC cJ cI cZ cB kc)) (wr := ([(h1, .inr (2, [.ref pB, .ref pW, .ref pS, .ref pA, .ref pQ, .ref pC, .ref pR, .ref pT, .int many, .int tsz, .int thr, .ref pD])), (pB, .inl (cB, 4096, .inl kb)), (pW, .inl (cI, 64, .inl kw)), (pS, .inl (cZ, 64, .inl ks)), (pA, .inl (cB, 64, .inl ka)), (pQ, .inl (cB, 64, .inl kq)), (pR, .inl (cB, 65, .inl kr)), (pT, .inl (cB, 80, .inl kt)), (pD, .inl (cB, 24, .inl kd))] : va_W)) (va_runS (As := [.ref pC, .int x3, .int (3 : Int32)]) (rest := []) ⟨hx, hb, hml, hown, hts⟩ (kt_M_fill l dC dI cJ cI cZ cB pC _ x3 (3 : Int32) kc _ hw) ⟨callB_of 3 hts (gw_in mw_t538) rfl rfl rfl (hq mw_t3) (hq mw_t536) (by decide +kernel) ⟨Nat.le_of_ble_eq_true rfl, Nat.le_of_ble_eq_true rfl⟩, hq mw_t537⟩ (ps_W (hP.sub (ws' := (wd_A pC cJ cI cZ cB kc)) [6] rfl) hK (hD.sub (ws' := (wd_A pC cJ cI cZ cB kc)) [6] (by decide) rfl) hE) rfl rfl hl.1 rfl (lv_room (Nat.le_of_ble_eq_true rfl)) dc_M_reckon_44 ⟨Nat.le_of_ble_eq_true rfl, Nat.le_of_ble_eq_true rfl⟩) hP hD hS hA [6] [0, 1, 2, 3, 4, 5, 7, 8, 9] rfl rfl (by decide) (by decide) (fun u H locs hw hP hD hS => ?_)
    obtain ⟨kc44, rfl⟩ : ∃ z, z = u := ⟨_, rfl⟩
    have hP : va_P (dC, dI) cs_3 (wd_M h1 pB pW pS pA pQ pC pR pT pD cJ cI cZ cB kb kw ks ka kq kc44 kr kt kd many tsz thr) H := hP.sub (ws' := (wd_M h1 pB pW pS pA pQ pC pR pT pD cJ cI cZ cB kb kw ks ka kq kc44 kr kt kd many tsz thr)) [0, 1, 2, 3, 4, 5, 9, 6, 7, 8] rfl
    have hD : va_D A (wd_M h1 pB pW pS pA pQ pC pR pT pD cJ cI cZ cB kb kw ks ka kq kc44 kr kt kd many tsz thr) := hD.sub (ws' := (wd_M h1 pB pW pS pA pQ pC pR pT pD cJ cI cZ cB kb kw ks ka kq kc44 kr kt kd many tsz thr)) [0, 1, 2, 3, 4, 5, 9, 6, 7, 8] (by decide) rfl
    try dsimp only at hw
    refine lv_goto (tgt := 151) hx hb dc_M_reckon_47 (by decide) ?_
    exact B_151 _ _ _ kb kw ks ka kq kc44 kr kt kd many tsz thr hw hP hD hS (lv_sub hl [] rfl)
  unfold wp_M_reckon at hw
  refine lv_aload_n hx hb dc_M_reckon_0 rfl (lv_at hl 0 rfl) ?_
  refine va_get (D := (dC, dI)) (ci := 2) (v := .ref pA) (C := "FourWordsModel") (T := tb_M) (N := 12) hx hb hts (hu _ um_M) hown hK hP 0 rfl rfl 3 (by decide) (hq mw_t463) (fun _ h9 => h9) rfl dc_M_reckon_1 ?_
  refine lv_iload_n hx hb dc_M_reckon_4 rfl (lv_at hl 3 rfl) ?_
  refine gc_i (S := (Nat → Int32)) (w1 := (fun u => (wd_A pA cJ cI cZ cB u))) (wc := (wd_A pA cJ cI cZ cB ka)) (wr := ([(h1, .inr (2, [.ref pB, .ref pW, .ref pS, .ref pA, .ref pQ, .ref pC, .ref pR, .ref pT, .int many, .int tsz, .int thr, .ref pD])), (pB, .inl (cB, 4096, .inl kb)), (pW, .inl (cI, 64, .inl kw)), (pS, .inl (cZ, 64, .inl ks)), (pQ, .inl (cB, 64, .inl kq)), (pC, .inl (cB, 64, .inl kc)), (pR, .inl (cB, 65, .inl kr)), (pT, .inl (cB, 80, .inl kt)), (pD, .inl (cB, 24, .inl kd))] : va_W)) (va_runS (As := [.ref pA, .int a3]) (rest := []) ⟨hx, hb, hml, hown, hts⟩ (kt_M_dark l dC dI cJ cI cZ cB pA _ a3 ka _ hw) ⟨callB_of 2 hts (gw_in mw_t532) rfl rfl rfl (hq mw_t3) (hq mw_t530) (by decide +kernel) ⟨Nat.le_of_ble_eq_true rfl, Nat.le_of_ble_eq_true rfl⟩, hq mw_t531⟩ (ps_W (hP.sub (ws' := (wd_A pA cJ cI cZ cB ka)) [4] rfl) hK (hD.sub (ws' := (wd_A pA cJ cI cZ cB ka)) [4] (by decide) rfl) hE) rfl rfl hl.1 rfl (lv_room (Nat.le_of_ble_eq_true rfl)) dc_M_reckon_5 ⟨Nat.le_of_ble_eq_true rfl, Nat.le_of_ble_eq_true rfl⟩) hP hD hS hA [4] [0, 1, 2, 3, 5, 6, 7, 8, 9] rfl rfl (by decide) (by decide) (fun r5 u H locs hw hP hD hS => ?_)
  obtain ⟨ka5, rfl⟩ : ∃ z, z = u := ⟨_, rfl⟩
  have hP : va_P (dC, dI) cs_3 (wd_M h1 pB pW pS pA pQ pC pR pT pD cJ cI cZ cB kb kw ks ka5 kq kc kr kt kd many tsz thr) H := hP.sub (ws' := (wd_M h1 pB pW pS pA pQ pC pR pT pD cJ cI cZ cB kb kw ks ka5 kq kc kr kt kd many tsz thr)) [0, 1, 2, 3, 9, 4, 5, 6, 7, 8] rfl
  have hD : va_D A (wd_M h1 pB pW pS pA pQ pC pR pT pD cJ cI cZ cB kb kw ks ka5 kq kc kr kt kd many tsz thr) := hD.sub (ws' := (wd_M h1 pB pW pS pA pQ pC pR pT pD cJ cI cZ cB kb kw ks ka5 kq kc kr kt kd many tsz thr)) [0, 1, 2, 3, 9, 4, 5, 6, 7, 8] (by decide) rfl
  try dsimp only at hw
  obtain ⟨hw1, hw2⟩ := hw
  refine lv_if_ne (tgt := 38) hx hb dc_M_reckon_8 (by decide) (fun hc => ?_) (fun hc => ?_)
  · have hw := hw1 hc
    clear hw1 hw2
    exact B_38 _ _ _ a3 kb kw ks ka5 kq kc kr kt kd many tsz thr hw hP hD hS (lv_sub hl [0, 3] rfl)
  · have hw := hw2 (fun h9 => h9 hc)
    clear hw1 hw2
    refine lv_aload_n hx hb dc_M_reckon_11 rfl (lv_at hl 0 rfl) ?_
    refine va_get (D := (dC, dI)) (ci := 2) (v := .ref pQ) (C := "FourWordsModel") (T := tb_M) (N := 12) hx hb hts (hu _ um_M) hown hK hP 0 rfl rfl 4 (by decide) (hq mw_t464) (fun _ h9 => h9) rfl dc_M_reckon_12 ?_
    refine lv_iload_n hx hb dc_M_reckon_15 rfl (lv_at hl 3 rfl) ?_
    refine gc_i (S := (Nat → Int32)) (w1 := (fun u => (wd_A pQ cJ cI cZ cB u))) (wc := (wd_A pQ cJ cI cZ cB kq)) (wr := ([(h1, .inr (2, [.ref pB, .ref pW, .ref pS, .ref pA, .ref pQ, .ref pC, .ref pR, .ref pT, .int many, .int tsz, .int thr, .ref pD])), (pB, .inl (cB, 4096, .inl kb)), (pW, .inl (cI, 64, .inl kw)), (pS, .inl (cZ, 64, .inl ks)), (pA, .inl (cB, 64, .inl ka5)), (pC, .inl (cB, 64, .inl kc)), (pR, .inl (cB, 65, .inl kr)), (pT, .inl (cB, 80, .inl kt)), (pD, .inl (cB, 24, .inl kd))] : va_W)) (va_runS (As := [.ref pQ, .int a3]) (rest := []) ⟨hx, hb, hml, hown, hts⟩ (kt_M_dark l dC dI cJ cI cZ cB pQ _ a3 kq _ hw) ⟨callB_of 2 hts (gw_in mw_t532) rfl rfl rfl (hq mw_t3) (hq mw_t530) (by decide +kernel) ⟨Nat.le_of_ble_eq_true rfl, Nat.le_of_ble_eq_true rfl⟩, hq mw_t531⟩ (ps_W (hP.sub (ws' := (wd_A pQ cJ cI cZ cB kq)) [5] rfl) hK (hD.sub (ws' := (wd_A pQ cJ cI cZ cB kq)) [5] (by decide) rfl) hE) rfl rfl hl.1 rfl (lv_room (Nat.le_of_ble_eq_true rfl)) dc_M_reckon_16 ⟨Nat.le_of_ble_eq_true rfl, Nat.le_of_ble_eq_true rfl⟩) hP hD hS hA [5] [0, 1, 2, 3, 4, 6, 7, 8, 9] rfl rfl (by decide) (by decide) (fun r16 u H locs hw hP hD hS => ?_)
    obtain ⟨kq16, rfl⟩ : ∃ z, z = u := ⟨_, rfl⟩
    have hP : va_P (dC, dI) cs_3 (wd_M h1 pB pW pS pA pQ pC pR pT pD cJ cI cZ cB kb kw ks ka5 kq16 kc kr kt kd many tsz thr) H := hP.sub (ws' := (wd_M h1 pB pW pS pA pQ pC pR pT pD cJ cI cZ cB kb kw ks ka5 kq16 kc kr kt kd many tsz thr)) [0, 1, 2, 3, 4, 9, 5, 6, 7, 8] rfl
    have hD : va_D A (wd_M h1 pB pW pS pA pQ pC pR pT pD cJ cI cZ cB kb kw ks ka5 kq16 kc kr kt kd many tsz thr) := hD.sub (ws' := (wd_M h1 pB pW pS pA pQ pC pR pT pD cJ cI cZ cB kb kw ks ka5 kq16 kc kr kt kd many tsz thr)) [0, 1, 2, 3, 4, 9, 5, 6, 7, 8] (by decide) rfl
    try dsimp only at hw
    obtain ⟨hw1, hw2⟩ := hw
    refine lv_if_ne (tgt := 38) hx hb dc_M_reckon_19 (by decide) (fun hc => ?_) (fun hc => ?_)
    · have hw := hw1 hc
      clear hw1 hw2
      exact B_38 _ _ _ a3 kb kw ks ka5 kq16 kc kr kt kd many tsz thr hw hP hD hS (lv_sub hl [0, 3] rfl)
    · have hw := hw2 (fun h9 => h9 hc)
      clear hw1 hw2
      refine lv_iload_n hx hb dc_M_reckon_22 rfl (lv_at hl 1 rfl) ?_
      refine lv_iconst (v := 2) hx hb dc_M_reckon_23 (by decide) ?_
      obtain ⟨hw1, hw2⟩ := hw
      refine lv_icmp_le (tgt := 50) hx hb dc_M_reckon_24 (by decide) (fun hc => ?_) (fun hc => ?_)
      · have hw := hw1 hc
        clear hw1 hw2
        exact B_50 _ _ _ a1 a2 a3 kb kw ks ka5 kq16 kc kr kt kd many tsz thr hw hP hD hS (lv_sub hl [0, 1, 2, 3] rfl)
      · have hw := hw2 hc
        clear hw1 hw2
        refine lv_aload_n hx hb dc_M_reckon_27 rfl (lv_at hl 0 rfl) ?_
        refine va_get (D := (dC, dI)) (ci := 2) (v := .ref pQ) (C := "FourWordsModel") (T := tb_M) (N := 12) hx hb hts (hu _ um_M) hown hK hP 0 rfl rfl 4 (by decide) (hq mw_t464) (fun _ h9 => h9) rfl dc_M_reckon_28 ?_
        refine lv_iload_n hx hb dc_M_reckon_31 rfl (lv_at hl 3 rfl) ?_
        refine gc_i (S := (Nat → Int32)) (w1 := (fun u => (wd_A pQ cJ cI cZ cB u))) (wc := (wd_A pQ cJ cI cZ cB kq16)) (wr := ([(h1, .inr (2, [.ref pB, .ref pW, .ref pS, .ref pA, .ref pQ, .ref pC, .ref pR, .ref pT, .int many, .int tsz, .int thr, .ref pD])), (pB, .inl (cB, 4096, .inl kb)), (pW, .inl (cI, 64, .inl kw)), (pS, .inl (cZ, 64, .inl ks)), (pA, .inl (cB, 64, .inl ka5)), (pC, .inl (cB, 64, .inl kc)), (pR, .inl (cB, 65, .inl kr)), (pT, .inl (cB, 80, .inl kt)), (pD, .inl (cB, 24, .inl kd))] : va_W)) (va_runS (As := [.ref pQ, .int a3]) (rest := []) ⟨hx, hb, hml, hown, hts⟩ (kt_M_isZero l dC dI cJ cI cZ cB pQ _ a3 kq16 _ hw) ⟨callB_of 2 hts (gw_in mw_t535) rfl rfl rfl (hq mw_t3) (hq mw_t533) (by decide +kernel) ⟨Nat.le_of_ble_eq_true rfl, Nat.le_of_ble_eq_true rfl⟩, hq mw_t534⟩ (ps_W (hP.sub (ws' := (wd_A pQ cJ cI cZ cB kq16)) [5] rfl) hK (hD.sub (ws' := (wd_A pQ cJ cI cZ cB kq16)) [5] (by decide) rfl) hE) rfl rfl hl.1 rfl (lv_room (Nat.le_of_ble_eq_true rfl)) dc_M_reckon_32 ⟨Nat.le_of_ble_eq_true rfl, Nat.le_of_ble_eq_true rfl⟩) hP hD hS hA [5] [0, 1, 2, 3, 4, 6, 7, 8, 9] rfl rfl (by decide) (by decide) (fun r32 u H locs hw hP hD hS => ?_)
        obtain ⟨kq32, rfl⟩ : ∃ z, z = u := ⟨_, rfl⟩
        have hP : va_P (dC, dI) cs_3 (wd_M h1 pB pW pS pA pQ pC pR pT pD cJ cI cZ cB kb kw ks ka5 kq32 kc kr kt kd many tsz thr) H := hP.sub (ws' := (wd_M h1 pB pW pS pA pQ pC pR pT pD cJ cI cZ cB kb kw ks ka5 kq32 kc kr kt kd many tsz thr)) [0, 1, 2, 3, 4, 9, 5, 6, 7, 8] rfl
        have hD : va_D A (wd_M h1 pB pW pS pA pQ pC pR pT pD cJ cI cZ cB kb kw ks ka5 kq32 kc kr kt kd many tsz thr) := hD.sub (ws' := (wd_M h1 pB pW pS pA pQ pC pR pT pD cJ cI cZ cB kb kw ks ka5 kq32 kc kr kt kd many tsz thr)) [0, 1, 2, 3, 4, 9, 5, 6, 7, 8] (by decide) rfl
        try dsimp only at hw
        obtain ⟨hw1, hw2⟩ := hw
        refine lv_if_eq (tgt := 50) hx hb dc_M_reckon_35 (by decide) (fun hc => ?_) (fun hc => ?_)
        · have hw := hw1 hc
          clear hw1 hw2
          exact B_50 _ _ _ a1 a2 a3 kb kw ks ka5 kq32 kc kr kt kd many tsz thr hw hP hD hS (lv_sub hl [0, 1, 2, 3] rfl)
        · have hw := hw2 hc
          clear hw1 hw2
          exact B_38 _ _ _ a3 kb kw ks ka5 kq32 kc kr kt kd many tsz thr hw hP hD hS (lv_sub hl [0, 3] rfl)
set_option maxHeartbeats 4000000 in
set_option maxRecDepth 100000 in
theorem kt_M_equal (l : Launch) (dC : Nat → ClassId) (dI : Nat → Nat → Nat) (cJ cI cZ cB : ClassId) (h1 pB pW pS pA pQ pC pR pT pD : Nat) (sz : Nat) (a1 : Int32) (kb : (Nat → Int32)) (kw : (Nat → Int32)) (ks : (Nat → Int32)) (ka : (Nat → Int32)) (kq : (Nat → Int32)) (kc : (Nat → Int32)) (kr : (Nat → Int32)) (kt : (Nat → Int32)) (kd : (Nat → Int32)) (many : Int32) (tsz : Int32) (thr : Int32) (post : Int32 → (Nat → Int32) → (Nat → Int32) → (Nat → Int32) → (Nat → Int32) → (Nat → Int32) → (Nat → Int32) → (Nat → Int32) → (Nat → Int32) → (Nat → Int32) → Int32 → Int32 → Int32 → Prop) (hw : wp_M_equal post a1 kb kw ks ka kq kc kr kt kd many tsz thr) : Met l yn_M_equal ws_M_equal rm_M_equal (va_Pc [.ref h1, .int a1] (pc_W (dC, dI) (ty_4 cJ cI cZ cB) (wd_M h1 pB pW pS pA pQ pC pR pT pD cJ cI cZ cB kb kw ks ka kq kc kr kt kd many tsz thr) sz)) (qi_M dC dI cJ cI cZ cB h1 pB pW pS pA pQ pC pR pT pD post (va_A (wd_M h1 pB pW pS pA pQ pC pR pT pD cJ cI cZ cB kb kw ks ka kq kc kr kt kd many tsz thr) sz)) 0 0 (va_A (wd_M h1 pB pW pS pA pQ pC pR pT pD cJ cI cZ cB kb kw ks ka kq kc kr kt kd many tsz thr) sz) := by
  refine Met.ofW (cc := cd_M_equal) (maxL := 3) (ret := (some .int)) (by decide) rfl ?_
  intro p e s m args below meth c s₁ B hml hv
  obtain ⟨rfl, hsz, hP, hK, hD0, hE⟩ := hv
  have hx := B.exec
  have hb := B.bytes
  have hr := B.returns
  have hts := atoms_spec (ws := ws_M_equal) B.pre
  have hq : ∀ {w : Cond}, w ∈ wg_all → w.before ([.ref h1, .int a1] : List Value).toArray s = true := fun h => hts _ (List.mem_cons_of_mem _ h)
  have hu : ∀ L : List Cond, (∀ w ∈ L, w ∈ wg_all) → ∀ w ∈ L, w ∈ ws_M_equal := fun L h w hw => List.mem_cons_of_mem _ (h w hw)
  have hown : s.vm.findClass "FourWordsModel" = some m.cls := findClass_of_methodNamed B.named
  have hlocks := B.notSynchronized
  subst hsz
  have hD := hD0.self (sz := s.heap.size)
  generalize hAe : va_A (wd_M h1 pB pW pS pA pQ pC pR pT pD cJ cI cZ cB kb kw ks ka kq kc kr kt kd many tsz thr) s.heap.size = A at hD ⊢
  have hA : ∀ q : Nat, s.heap.size ≤ q → A q := fun q h => by rw [← hAe]; exact Or.inr h
  have hS : va_S A s.heap s.heap [] := va_S.rf
  have hl := lv_entry [.ref h1, .int a1] (n := 3) (Nat.le_of_ble_eq_true rfl)
  rw [lg_entry_eq]
  generalize (lg_sl [.ref h1, .int a1] ++ List.replicate (3 - (lg_sl [.ref h1, .int a1]).length) Slot.unset).toArray = ls at hl ⊢
  have hl : lv_has ls 3 [(0, .ref h1), (1, .int a1)] := hl
  have B_77 : ∀ (H : Heap) (locs : List Loc) (ls : Array Slot) (t0 : Int32) (kb : (Nat → Int32)) (kw : (Nat → Int32)) (ks : (Nat → Int32)) (ka : (Nat → Int32)) (kq : (Nat → Int32)) (kc : (Nat → Int32)) (kr : (Nat → Int32)) (kt : (Nat → Int32)) (kd : (Nat → Int32)) (many : Int32) (tsz : Int32) (thr : Int32), wp_M_equal_77 post t0 kb kw ks ka kq kc kr kt kd many tsz thr → va_P (dC, dI) cs_3 (wd_M h1 pB pW pS pA pQ pC pR pT pD cJ cI cZ cB kb kw ks ka kq kc kr kt kd many tsz thr) H → va_D A (wd_M h1 pB pW pS pA pQ pC pR pT pD cJ cI cZ cB kb kw ks ka kq kc kr kt kd many tsz thr) → va_S A s.heap H locs → lv_has ls 3 [] → W p l e (headSpec ws_M_equal rm_M_equal).room s m ([.ref h1, .int a1] : List Value).toArray below meth c H locs 0 0 (MQ below (qi_M dC dI cJ cI cZ cB h1 pB pW pS pA pQ pC pR pT pD post A) ([.ref h1, .int a1] : List Value).toArray s 0 0 A) (F0 m 77 ls [.int t0]) := by
    intro H locs ls t0 kb kw ks ka kq kc kr kt kd many tsz thr hw hP hD hS hl
    unfold wp_M_equal_77 at hw
    exact W.iret (v := t0) hx hb hr (fun t ht hW => ⟨⟨t0, (kb, kw, ks, ka, kq, kc, kr, kt, kd, many, tsz, thr), rfl, hw, by rw [ht]; exact hP, va_K.moved hW.alike hK, hD⟩, hS.F ht⟩) hS.2.2 dc_M_equal_77
  have B_72 : ∀ (H : Heap) (locs : List Loc) (ls : Array Slot) (kb : (Nat → Int32)) (kw : (Nat → Int32)) (ks : (Nat → Int32)) (ka : (Nat → Int32)) (kq : (Nat → Int32)) (kc : (Nat → Int32)) (kr : (Nat → Int32)) (kt : (Nat → Int32)) (kd : (Nat → Int32)) (many : Int32) (tsz : Int32) (thr : Int32), wp_M_equal_72 post kb kw ks ka kq kc kr kt kd many tsz thr → va_P (dC, dI) cs_3 (wd_M h1 pB pW pS pA pQ pC pR pT pD cJ cI cZ cB kb kw ks ka kq kc kr kt kd many tsz thr) H → va_D A (wd_M h1 pB pW pS pA pQ pC pR pT pD cJ cI cZ cB kb kw ks ka kq kc kr kt kd many tsz thr) → va_S A s.heap H locs → lv_has ls 3 [] → W p l e (headSpec ws_M_equal rm_M_equal).room s m ([.ref h1, .int a1] : List Value).toArray below meth c H locs 0 0 (MQ below (qi_M dC dI cJ cI cZ cB h1 pB pW pS pA pQ pC pR pT pD post A) ([.ref h1, .int a1] : List Value).toArray s 0 0 A) (F0 m 72 ls []) := by
    intro H locs ls kb kw ks ka kq kc kr kt kd many tsz thr hw hP hD hS hl
    unfold wp_M_equal_72 at hw
    refine lv_iconst (v := 3) hx hb dc_M_equal_72 (by decide) ?_
    refine lv_goto (tgt := 77) hx hb dc_M_equal_73 (by decide) ?_
    exact B_77 _ _ _ (3 : Int32) kb kw ks ka kq kc kr kt kd many tsz thr hw hP hD hS (lv_sub hl [] rfl)
  have B_44 : ∀ (K2 : Int32 → Int32 → (Nat → Int32) → (Nat → Int32) → (Nat → Int32) → (Nat → Int32) → (Nat → Int32) → (Nat → Int32) → (Nat → Int32) → (Nat → Int32) → (Nat → Int32) → Int32 → Int32 → Int32 → Prop) (hK2 : ∀ (H : Heap) (locs : List Loc) (ls : Array Slot) (x1 : Int32) (x2 : Int32) (kb : (Nat → Int32)) (kw : (Nat → Int32)) (ks : (Nat → Int32)) (ka : (Nat → Int32)) (kq : (Nat → Int32)) (kc : (Nat → Int32)) (kr : (Nat → Int32)) (kt : (Nat → Int32)) (kd : (Nat → Int32)) (many : Int32) (tsz : Int32) (thr : Int32), K2 x1 x2 kb kw ks ka kq kc kr kt kd many tsz thr → va_P (dC, dI) cs_3 (wd_M h1 pB pW pS pA pQ pC pR pT pD cJ cI cZ cB kb kw ks ka kq kc kr kt kd many tsz thr) H → va_D A (wd_M h1 pB pW pS pA pQ pC pR pT pD cJ cI cZ cB kb kw ks ka kq kc kr kt kd many tsz thr) → va_S A s.heap H locs → lv_has ls 3 [(0, .ref h1), (1, .int x1), (2, .int x2)] → W p l e (headSpec ws_M_equal rm_M_equal).room s m ([.ref h1, .int a1] : List Value).toArray below meth c H locs 0 0 (MQ below (qi_M dC dI cJ cI cZ cB h1 pB pW pS pA pQ pC pR pT pD post A) ([.ref h1, .int a1] : List Value).toArray s 0 0 A) (F0 m 2 ls [])) (H : Heap) (locs : List Loc) (ls : Array Slot) (x1 : Int32) (x2 : Int32) (kb : (Nat → Int32)) (kw : (Nat → Int32)) (ks : (Nat → Int32)) (ka : (Nat → Int32)) (kq : (Nat → Int32)) (kc : (Nat → Int32)) (kr : (Nat → Int32)) (kt : (Nat → Int32)) (kd : (Nat → Int32)) (many : Int32) (tsz : Int32) (thr : Int32), wp_M_equal_44 K2 post x1 x2 kb kw ks ka kq kc kr kt kd many tsz thr → va_P (dC, dI) cs_3 (wd_M h1 pB pW pS pA pQ pC pR pT pD cJ cI cZ cB kb kw ks ka kq kc kr kt kd many tsz thr) H → va_D A (wd_M h1 pB pW pS pA pQ pC pR pT pD cJ cI cZ cB kb kw ks ka kq kc kr kt kd many tsz thr) → va_S A s.heap H locs → lv_has ls 3 [(0, .ref h1), (1, .int x1), (2, .int x2)] → W p l e (headSpec ws_M_equal rm_M_equal).room s m ([.ref h1, .int a1] : List Value).toArray below meth c H locs 0 0 (MQ below (qi_M dC dI cJ cI cZ cB h1 pB pW pS pA pQ pC pR pT pD post A) ([.ref h1, .int a1] : List Value).toArray s 0 0 A) (F0 m 44 ls []) := by
    intro K2 hK2 H locs ls x1 x2 kb kw ks ka kq kc kr kt kd many tsz thr hw hP hD hS hl
    unfold wp_M_equal_44 at hw
    refine lv_iinc (lv' := [(2, .int (x2 + 1)), (0, .ref h1), (1, .int x1)]) hx hb dc_M_equal_44 hl (k := 2) rfl (ic_p1 _) (Nat.le_of_ble_eq_true rfl) rfl (fun ls hl => ?_)
    refine lv_goto (tgt := 2) hx hb dc_M_equal_47 (by decide) ?_
    exact hK2 _ _ _ x1 (x2 + 1) kb kw ks ka kq kc kr kt kd many tsz thr hw hP hD hS (lv_sub hl [1, 2, 0] rfl)
  have B_2 : ∀ (n2 : Nat) (H : Heap) (locs : List Loc) (ls : Array Slot) (x1 : Int32) (x2 : Int32) (kb : (Nat → Int32)) (kw : (Nat → Int32)) (ks : (Nat → Int32)) (ka : (Nat → Int32)) (kq : (Nat → Int32)) (kc : (Nat → Int32)) (kr : (Nat → Int32)) (kt : (Nat → Int32)) (kd : (Nat → Int32)) (many : Int32) (tsz : Int32) (thr : Int32), wp_M_equal_2 post n2 x1 x2 kb kw ks ka kq kc kr kt kd many tsz thr → va_P (dC, dI) cs_3 (wd_M h1 pB pW pS pA pQ pC pR pT pD cJ cI cZ cB kb kw ks ka kq kc kr kt kd many tsz thr) H → va_D A (wd_M h1 pB pW pS pA pQ pC pR pT pD cJ cI cZ cB kb kw ks ka kq kc kr kt kd many tsz thr) → va_S A s.heap H locs → lv_has ls 3 [(0, .ref h1), (1, .int x1), (2, .int x2)] → W p l e (headSpec ws_M_equal rm_M_equal).room s m ([.ref h1, .int a1] : List Value).toArray below meth c H locs 0 0 (MQ below (qi_M dC dI cJ cI cZ cB h1 pB pW pS pA pQ pC pR pT pD post A) ([.ref h1, .int a1] : List Value).toArray s 0 0 A) (F0 m 2 ls []) := by
    intro n2
    induction n2 with
    | zero => intro H locs ls x1 x2 kb kw ks ka kq kc kr kt kd many tsz thr hw; exact False.elim hw
    | succ n2 ih =>
      intro H locs ls x1 x2 kb kw ks ka kq kc kr kt kd many tsz thr hw hP hD hS hl
      unfold wp_M_equal_2 at hw
      refine lv_iload_n hx hb dc_M_equal_2 rfl (lv_at hl 2 rfl) ?_
      refine lv_iload_n hx hb dc_M_equal_3 rfl (lv_at hl 1 rfl) ?_
      obtain ⟨hw1, hw2⟩ := hw
      refine lv_icmp_ge (tgt := 50) hx hb dc_M_equal_4 (by decide) (fun hc => ?_) (fun hc => ?_)
      · have hw := hw1 hc
        clear hw1 hw2
        refine lv_aload_n hx hb dc_M_equal_50 rfl (lv_at hl 0 rfl) ?_
        refine va_get (D := (dC, dI)) (ci := 2) (v := .ref pA) (C := "FourWordsModel") (T := tb_M) (N := 12) hx hb hts (hu _ um_M) hown hK hP 0 rfl rfl 3 (by decide) (hq mw_t463) (fun _ h9 => h9) rfl dc_M_equal_51 ?_
        refine lv_iload_n hx hb dc_M_equal_54 rfl (lv_at hl 1 rfl) ?_
        refine gc_i (S := (Nat → Int32)) (w1 := (fun u => (wd_A pA cJ cI cZ cB u))) (wc := (wd_A pA cJ cI cZ cB ka)) (wr := ([(h1, .inr (2, [.ref pB, .ref pW, .ref pS, .ref pA, .ref pQ, .ref pC, .ref pR, .ref pT, .int many, .int tsz, .int thr, .ref pD])), (pB, .inl (cB, 4096, .inl kb)), (pW, .inl (cI, 64, .inl kw)), (pS, .inl (cZ, 64, .inl ks)), (pQ, .inl (cB, 64, .inl kq)), (pC, .inl (cB, 64, .inl kc)), (pR, .inl (cB, 65, .inl kr)), (pT, .inl (cB, 80, .inl kt)), (pD, .inl (cB, 24, .inl kd))] : va_W)) (va_runS (As := [.ref pA, .int x1]) (rest := []) ⟨hx, hb, hml, hown, hts⟩ (kt_M_dark l dC dI cJ cI cZ cB pA _ x1 ka _ hw) ⟨callB_of 2 hts (gw_in mw_t532) rfl rfl rfl (hq mw_t3) (hq mw_t530) (by decide +kernel) ⟨Nat.le_of_ble_eq_true rfl, Nat.le_of_ble_eq_true rfl⟩, hq mw_t531⟩ (ps_W (hP.sub (ws' := (wd_A pA cJ cI cZ cB ka)) [4] rfl) hK (hD.sub (ws' := (wd_A pA cJ cI cZ cB ka)) [4] (by decide) rfl) hE) rfl rfl hl.1 rfl (lv_room (Nat.le_of_ble_eq_true rfl)) dc_M_equal_55 ⟨Nat.le_of_ble_eq_true rfl, Nat.le_of_ble_eq_true rfl⟩) hP hD hS hA [4] [0, 1, 2, 3, 5, 6, 7, 8, 9] rfl rfl (by decide) (by decide) (fun r55 u H locs hw hP hD hS => ?_)
        obtain ⟨ka55, rfl⟩ : ∃ z, z = u := ⟨_, rfl⟩
        have hP : va_P (dC, dI) cs_3 (wd_M h1 pB pW pS pA pQ pC pR pT pD cJ cI cZ cB kb kw ks ka55 kq kc kr kt kd many tsz thr) H := hP.sub (ws' := (wd_M h1 pB pW pS pA pQ pC pR pT pD cJ cI cZ cB kb kw ks ka55 kq kc kr kt kd many tsz thr)) [0, 1, 2, 3, 9, 4, 5, 6, 7, 8] rfl
        have hD : va_D A (wd_M h1 pB pW pS pA pQ pC pR pT pD cJ cI cZ cB kb kw ks ka55 kq kc kr kt kd many tsz thr) := hD.sub (ws' := (wd_M h1 pB pW pS pA pQ pC pR pT pD cJ cI cZ cB kb kw ks ka55 kq kc kr kt kd many tsz thr)) [0, 1, 2, 3, 9, 4, 5, 6, 7, 8] (by decide) rfl
        try dsimp only at hw
        obtain ⟨hw1, hw2⟩ := hw
        refine lv_if_ne (tgt := 72) hx hb dc_M_equal_58 (by decide) (fun hc => ?_) (fun hc => ?_)
        · have hw := hw1 hc
          clear hw1 hw2
          exact B_72 _ _ _ kb kw ks ka55 kq kc kr kt kd many tsz thr hw hP hD hS (lv_sub hl [] rfl)
        · have hw := hw2 (fun h9 => h9 hc)
          clear hw1 hw2
          refine lv_aload_n hx hb dc_M_equal_61 rfl (lv_at hl 0 rfl) ?_
          refine va_get (D := (dC, dI)) (ci := 2) (v := .ref pQ) (C := "FourWordsModel") (T := tb_M) (N := 12) hx hb hts (hu _ um_M) hown hK hP 0 rfl rfl 4 (by decide) (hq mw_t464) (fun _ h9 => h9) rfl dc_M_equal_62 ?_
          refine lv_iload_n hx hb dc_M_equal_65 rfl (lv_at hl 1 rfl) ?_
          refine gc_i (S := (Nat → Int32)) (w1 := (fun u => (wd_A pQ cJ cI cZ cB u))) (wc := (wd_A pQ cJ cI cZ cB kq)) (wr := ([(h1, .inr (2, [.ref pB, .ref pW, .ref pS, .ref pA, .ref pQ, .ref pC, .ref pR, .ref pT, .int many, .int tsz, .int thr, .ref pD])), (pB, .inl (cB, 4096, .inl kb)), (pW, .inl (cI, 64, .inl kw)), (pS, .inl (cZ, 64, .inl ks)), (pA, .inl (cB, 64, .inl ka55)), (pC, .inl (cB, 64, .inl kc)), (pR, .inl (cB, 65, .inl kr)), (pT, .inl (cB, 80, .inl kt)), (pD, .inl (cB, 24, .inl kd))] : va_W)) (va_runS (As := [.ref pQ, .int x1]) (rest := []) ⟨hx, hb, hml, hown, hts⟩ (kt_M_dark l dC dI cJ cI cZ cB pQ _ x1 kq _ hw) ⟨callB_of 2 hts (gw_in mw_t532) rfl rfl rfl (hq mw_t3) (hq mw_t530) (by decide +kernel) ⟨Nat.le_of_ble_eq_true rfl, Nat.le_of_ble_eq_true rfl⟩, hq mw_t531⟩ (ps_W (hP.sub (ws' := (wd_A pQ cJ cI cZ cB kq)) [5] rfl) hK (hD.sub (ws' := (wd_A pQ cJ cI cZ cB kq)) [5] (by decide) rfl) hE) rfl rfl hl.1 rfl (lv_room (Nat.le_of_ble_eq_true rfl)) dc_M_equal_66 ⟨Nat.le_of_ble_eq_true rfl, Nat.le_of_ble_eq_true rfl⟩) hP hD hS hA [5] [0, 1, 2, 3, 4, 6, 7, 8, 9] rfl rfl (by decide) (by decide) (fun r66 u H locs hw hP hD hS => ?_)
          obtain ⟨kq66, rfl⟩ : ∃ z, z = u := ⟨_, rfl⟩
          have hP : va_P (dC, dI) cs_3 (wd_M h1 pB pW pS pA pQ pC pR pT pD cJ cI cZ cB kb kw ks ka55 kq66 kc kr kt kd many tsz thr) H := hP.sub (ws' := (wd_M h1 pB pW pS pA pQ pC pR pT pD cJ cI cZ cB kb kw ks ka55 kq66 kc kr kt kd many tsz thr)) [0, 1, 2, 3, 4, 9, 5, 6, 7, 8] rfl
          have hD : va_D A (wd_M h1 pB pW pS pA pQ pC pR pT pD cJ cI cZ cB kb kw ks ka55 kq66 kc kr kt kd many tsz thr) := hD.sub (ws' := (wd_M h1 pB pW pS pA pQ pC pR pT pD cJ cI cZ cB kb kw ks ka55 kq66 kc kr kt kd many tsz thr)) [0, 1, 2, 3, 4, 9, 5, 6, 7, 8] (by decide) rfl
          try dsimp only at hw
          obtain ⟨hw1, hw2⟩ := hw
          refine lv_if_eq (tgt := 76) hx hb dc_M_equal_69 (by decide) (fun hc => ?_) (fun hc => ?_)
          · have hw := hw1 hc
            clear hw1 hw2
            refine lv_iconst (v := 1) hx hb dc_M_equal_76 (by decide) ?_
            exact B_77 _ _ _ (1 : Int32) kb kw ks ka55 kq66 kc kr kt kd many tsz thr hw hP hD hS (lv_sub hl [] rfl)
          · have hw := hw2 hc
            clear hw1 hw2
            exact B_72 _ _ _ kb kw ks ka55 kq66 kc kr kt kd many tsz thr hw hP hD hS (lv_sub hl [] rfl)
      · have hw := hw2 hc
        clear hw1 hw2
        refine lv_aload_n hx hb dc_M_equal_7 rfl (lv_at hl 0 rfl) ?_
        refine va_get (D := (dC, dI)) (ci := 2) (v := .ref pA) (C := "FourWordsModel") (T := tb_M) (N := 12) hx hb hts (hu _ um_M) hown hK hP 0 rfl rfl 3 (by decide) (hq mw_t463) (fun _ h9 => h9) rfl dc_M_equal_8 ?_
        refine lv_iload_n hx hb dc_M_equal_11 rfl (lv_at hl 2 rfl) ?_
        obtain ⟨hin, hw⟩ := hw
        refine va_bald hx hb hK hP 4 3 rfl rfl hin dc_M_equal_12 ?_
        refine lv_iconst (v := 2) hx hb dc_M_equal_13 (by decide) ?_
        obtain ⟨hw1, hw2⟩ := hw
        refine lv_icmp_ge (tgt := 44) hx hb dc_M_equal_14 (by decide) (fun hc => ?_) (fun hc => ?_)
        · have hw := hw1 hc
          clear hw1 hw2
          exact B_44 (wp_M_equal_2 post n2) ih _ _ _ x1 x2 kb kw ks ka kq kc kr kt kd many tsz thr hw hP hD hS (lv_sub hl [0, 1, 2] rfl)
        · have hw := hw2 hc
          clear hw1 hw2
          refine lv_aload_n hx hb dc_M_equal_17 rfl (lv_at hl 0 rfl) ?_
          refine va_get (D := (dC, dI)) (ci := 2) (v := .ref pQ) (C := "FourWordsModel") (T := tb_M) (N := 12) hx hb hts (hu _ um_M) hown hK hP 0 rfl rfl 4 (by decide) (hq mw_t464) (fun _ h9 => h9) rfl dc_M_equal_18 ?_
          refine lv_iload_n hx hb dc_M_equal_21 rfl (lv_at hl 2 rfl) ?_
          obtain ⟨hin, hw⟩ := hw
          refine va_bald hx hb hK hP 5 3 rfl rfl hin dc_M_equal_22 ?_
          refine lv_iconst (v := 2) hx hb dc_M_equal_23 (by decide) ?_
          obtain ⟨hw1, hw2⟩ := hw
          refine lv_icmp_ge (tgt := 44) hx hb dc_M_equal_24 (by decide) (fun hc => ?_) (fun hc => ?_)
          · have hw := hw1 hc
            clear hw1 hw2
            exact B_44 (wp_M_equal_2 post n2) ih _ _ _ x1 x2 kb kw ks ka kq kc kr kt kd many tsz thr hw hP hD hS (lv_sub hl [0, 1, 2] rfl)
          · have hw := hw2 hc
            clear hw1 hw2
            refine lv_aload_n hx hb dc_M_equal_27 rfl (lv_at hl 0 rfl) ?_
            refine va_get (D := (dC, dI)) (ci := 2) (v := .ref pA) (C := "FourWordsModel") (T := tb_M) (N := 12) hx hb hts (hu _ um_M) hown hK hP 0 rfl rfl 3 (by decide) (hq mw_t463) (fun _ h9 => h9) rfl dc_M_equal_28 ?_
            refine lv_iload_n hx hb dc_M_equal_31 rfl (lv_at hl 2 rfl) ?_
            obtain ⟨hin, hw⟩ := hw
            refine va_bald hx hb hK hP 4 3 rfl rfl hin dc_M_equal_32 ?_
            refine lv_aload_n hx hb dc_M_equal_33 rfl (lv_at hl 0 rfl) ?_
            refine va_get (D := (dC, dI)) (ci := 2) (v := .ref pQ) (C := "FourWordsModel") (T := tb_M) (N := 12) hx hb hts (hu _ um_M) hown hK hP 0 rfl rfl 4 (by decide) (hq mw_t464) (fun _ h9 => h9) rfl dc_M_equal_34 ?_
            refine lv_iload_n hx hb dc_M_equal_37 rfl (lv_at hl 2 rfl) ?_
            obtain ⟨hin, hw⟩ := hw
            refine va_bald hx hb hK hP 5 3 rfl rfl hin dc_M_equal_38 ?_
            obtain ⟨hw1, hw2⟩ := hw
            refine lv_icmp_eq (tgt := 44) hx hb dc_M_equal_39 (by decide) (fun hc => ?_) (fun hc => ?_)
            · have hw := hw1 hc
              clear hw1 hw2
              exact B_44 (wp_M_equal_2 post n2) ih _ _ _ x1 x2 kb kw ks ka kq kc kr kt kd many tsz thr hw hP hD hS (lv_sub hl [0, 1, 2] rfl)
            · have hw := hw2 hc
              clear hw1 hw2
              refine lv_iconst (v := 0) hx hb dc_M_equal_42 (by decide) ?_
              exact W.iret (v := (0 : Int32)) hx hb hr (fun t ht hW => ⟨⟨(0 : Int32), (kb, kw, ks, ka, kq, kc, kr, kt, kd, many, tsz, thr), rfl, hw, by rw [ht]; exact hP, va_K.moved hW.alike hK, hD⟩, hS.F ht⟩) hS.2.2 dc_M_equal_43
  unfold wp_M_equal at hw
  refine lv_iconst (v := 0) hx hb dc_M_equal_0 (by decide) ?_
  refine lv_istore_n (lv' := [(2, .int (0 : Int32)), (0, .ref h1), (1, .int a1)]) hx hb dc_M_equal_1 rfl hl (Nat.le_of_ble_eq_true rfl) rfl (fun ls hl => ?_)
  obtain ⟨n2, hw⟩ := hw
  exact B_2 n2 _ _ _ a1 (0 : Int32) kb kw ks ka kq kc kr kt kd many tsz thr hw hP hD hS (lv_sub hl [1, 2, 0] rfl)
set_option maxHeartbeats 4000000 in
set_option maxRecDepth 100000 in
theorem kt_M_same (l : Launch) (dC : Nat → ClassId) (dI : Nat → Nat → Nat) (cJ cI cZ cB : ClassId) (h1 pB pW pS pA pQ pC pR pT pD : Nat) (sz : Nat) (a1 : Int32) (kb : (Nat → Int32)) (kw : (Nat → Int32)) (ks : (Nat → Int32)) (ka : (Nat → Int32)) (kq : (Nat → Int32)) (kc : (Nat → Int32)) (kr : (Nat → Int32)) (kt : (Nat → Int32)) (kd : (Nat → Int32)) (many : Int32) (tsz : Int32) (thr : Int32) (post : Int32 → (Nat → Int32) → (Nat → Int32) → (Nat → Int32) → (Nat → Int32) → (Nat → Int32) → (Nat → Int32) → (Nat → Int32) → (Nat → Int32) → (Nat → Int32) → Int32 → Int32 → Int32 → Prop) (hw : wp_M_same post a1 kb kw ks ka kq kc kr kt kd many tsz thr) : Met l yn_M_same ws_M_same rm_M_same (va_Pc [.ref h1, .int a1] (pc_W (dC, dI) (ty_4 cJ cI cZ cB) (wd_M h1 pB pW pS pA pQ pC pR pT pD cJ cI cZ cB kb kw ks ka kq kc kr kt kd many tsz thr) sz)) (qi_M dC dI cJ cI cZ cB h1 pB pW pS pA pQ pC pR pT pD post (va_A (wd_M h1 pB pW pS pA pQ pC pR pT pD cJ cI cZ cB kb kw ks ka kq kc kr kt kd many tsz thr) sz)) 0 0 (va_A (wd_M h1 pB pW pS pA pQ pC pR pT pD cJ cI cZ cB kb kw ks ka kq kc kr kt kd many tsz thr) sz) := by
  refine Met.ofW (cc := cd_M_same) (maxL := 3) (ret := (some .boolean)) (by decide) rfl ?_
  intro p e s m args below meth c s₁ B hml hv
  obtain ⟨rfl, hsz, hP, hK, hD0, hE⟩ := hv
  have hx := B.exec
  have hb := B.bytes
  have hr := B.returns
  have hts := atoms_spec (ws := ws_M_same) B.pre
  have hq : ∀ {w : Cond}, w ∈ wg_all → w.before ([.ref h1, .int a1] : List Value).toArray s = true := fun h => hts _ (List.mem_cons_of_mem _ h)
  have hu : ∀ L : List Cond, (∀ w ∈ L, w ∈ wg_all) → ∀ w ∈ L, w ∈ ws_M_same := fun L h w hw => List.mem_cons_of_mem _ (h w hw)
  have hown : s.vm.findClass "FourWordsModel" = some m.cls := findClass_of_methodNamed B.named
  have hlocks := B.notSynchronized
  subst hsz
  have hD := hD0.self (sz := s.heap.size)
  generalize hAe : va_A (wd_M h1 pB pW pS pA pQ pC pR pT pD cJ cI cZ cB kb kw ks ka kq kc kr kt kd many tsz thr) s.heap.size = A at hD ⊢
  have hA : ∀ q : Nat, s.heap.size ≤ q → A q := fun q h => by rw [← hAe]; exact Or.inr h
  have hS : va_S A s.heap s.heap [] := va_S.rf
  have hl := lv_entry [.ref h1, .int a1] (n := 3) (Nat.le_of_ble_eq_true rfl)
  rw [lg_entry_eq]
  generalize (lg_sl [.ref h1, .int a1] ++ List.replicate (3 - (lg_sl [.ref h1, .int a1]).length) Slot.unset).toArray = ls at hl ⊢
  have hl : lv_has ls 3 [(0, .ref h1), (1, .int a1)] := hl
  have B_2 : ∀ (n2 : Nat) (H : Heap) (locs : List Loc) (ls : Array Slot) (x1 : Int32) (x2 : Int32) (kb : (Nat → Int32)) (kw : (Nat → Int32)) (ks : (Nat → Int32)) (ka : (Nat → Int32)) (kq : (Nat → Int32)) (kc : (Nat → Int32)) (kr : (Nat → Int32)) (kt : (Nat → Int32)) (kd : (Nat → Int32)) (many : Int32) (tsz : Int32) (thr : Int32), wp_M_same_2 post n2 x1 x2 kb kw ks ka kq kc kr kt kd many tsz thr → va_P (dC, dI) cs_3 (wd_M h1 pB pW pS pA pQ pC pR pT pD cJ cI cZ cB kb kw ks ka kq kc kr kt kd many tsz thr) H → va_D A (wd_M h1 pB pW pS pA pQ pC pR pT pD cJ cI cZ cB kb kw ks ka kq kc kr kt kd many tsz thr) → va_S A s.heap H locs → lv_has ls 3 [(0, .ref h1), (1, .int x1), (2, .int x2)] → W p l e (headSpec ws_M_same rm_M_same).room s m ([.ref h1, .int a1] : List Value).toArray below meth c H locs 0 0 (MQ below (qi_M dC dI cJ cI cZ cB h1 pB pW pS pA pQ pC pR pT pD post A) ([.ref h1, .int a1] : List Value).toArray s 0 0 A) (F0 m 2 ls []) := by
    intro n2
    induction n2 with
    | zero => intro H locs ls x1 x2 kb kw ks ka kq kc kr kt kd many tsz thr hw; exact False.elim hw
    | succ n2 ih =>
      intro H locs ls x1 x2 kb kw ks ka kq kc kr kt kd many tsz thr hw hP hD hS hl
      unfold wp_M_same_2 at hw
      refine lv_iload_n hx hb dc_M_same_2 rfl (lv_at hl 2 rfl) ?_
      refine lv_iload_n hx hb dc_M_same_3 rfl (lv_at hl 1 rfl) ?_
      obtain ⟨hw1, hw2⟩ := hw
      refine lv_icmp_ge (tgt := 30) hx hb dc_M_same_4 (by decide) (fun hc => ?_) (fun hc => ?_)
      · have hw := hw1 hc
        clear hw1 hw2
        refine lv_iconst (v := 1) hx hb dc_M_same_30 (by decide) ?_
        obtain ⟨hnw, hw⟩ := hw
        exact W.zret (v := (1 : Int32)) hx hb hr hnw (fun t ht hW => ⟨⟨(1 : Int32), (kb, kw, ks, ka, kq, kc, kr, kt, kd, many, tsz, thr), rfl, hw, by rw [ht]; exact hP, va_K.moved hW.alike hK, hD⟩, hS.F ht⟩) hS.2.2 dc_M_same_31
      · have hw := hw2 hc
        clear hw1 hw2
        refine lv_aload_n hx hb dc_M_same_7 rfl (lv_at hl 0 rfl) ?_
        refine va_get (D := (dC, dI)) (ci := 2) (v := .ref pA) (C := "FourWordsModel") (T := tb_M) (N := 12) hx hb hts (hu _ um_M) hown hK hP 0 rfl rfl 3 (by decide) (hq mw_t463) (fun _ h9 => h9) rfl dc_M_same_8 ?_
        refine lv_iload_n hx hb dc_M_same_11 rfl (lv_at hl 2 rfl) ?_
        obtain ⟨hin, hw⟩ := hw
        refine va_bald hx hb hK hP 4 3 rfl rfl hin dc_M_same_12 ?_
        refine lv_aload_n hx hb dc_M_same_13 rfl (lv_at hl 0 rfl) ?_
        refine va_get (D := (dC, dI)) (ci := 2) (v := .ref pQ) (C := "FourWordsModel") (T := tb_M) (N := 12) hx hb hts (hu _ um_M) hown hK hP 0 rfl rfl 4 (by decide) (hq mw_t464) (fun _ h9 => h9) rfl dc_M_same_14 ?_
        refine lv_iload_n hx hb dc_M_same_17 rfl (lv_at hl 2 rfl) ?_
        obtain ⟨hin, hw⟩ := hw
        refine va_bald hx hb hK hP 5 3 rfl rfl hin dc_M_same_18 ?_
        obtain ⟨hw1, hw2⟩ := hw
        refine lv_icmp_eq (tgt := 24) hx hb dc_M_same_19 (by decide) (fun hc => ?_) (fun hc => ?_)
        · have hw := hw1 hc
          clear hw1 hw2
          refine lv_iinc (lv' := [(2, .int (x2 + 1)), (0, .ref h1), (1, .int x1)]) hx hb dc_M_same_24 hl (k := 2) rfl (ic_p1 _) (Nat.le_of_ble_eq_true rfl) rfl (fun ls hl => ?_)
          refine lv_goto (tgt := 2) hx hb dc_M_same_27 (by decide) ?_
          exact ih _ _ _ x1 (x2 + 1) kb kw ks ka kq kc kr kt kd many tsz thr hw hP hD hS (lv_sub hl [1, 2, 0] rfl)
        · have hw := hw2 hc
          clear hw1 hw2
          refine lv_iconst (v := 0) hx hb dc_M_same_22 (by decide) ?_
          obtain ⟨hnw, hw⟩ := hw
          exact W.zret (v := (0 : Int32)) hx hb hr hnw (fun t ht hW => ⟨⟨(0 : Int32), (kb, kw, ks, ka, kq, kc, kr, kt, kd, many, tsz, thr), rfl, hw, by rw [ht]; exact hP, va_K.moved hW.alike hK, hD⟩, hS.F ht⟩) hS.2.2 dc_M_same_23
  unfold wp_M_same at hw
  refine lv_iconst (v := 0) hx hb dc_M_same_0 (by decide) ?_
  refine lv_istore_n (lv' := [(2, .int (0 : Int32)), (0, .ref h1), (1, .int a1)]) hx hb dc_M_same_1 rfl hl (Nat.le_of_ble_eq_true rfl) rfl (fun ls hl => ?_)
  obtain ⟨n2, hw⟩ := hw
  exact B_2 n2 _ _ _ a1 (0 : Int32) kb kw ks ka kq kc kr kt kd many tsz thr hw hP hD hS (lv_sub hl [1, 2, 0] rfl)
set_option maxHeartbeats 4000000 in
set_option maxRecDepth 100000 in
theorem kt_M_order (l : Launch) (dC : Nat → ClassId) (dI : Nat → Nat → Nat) (cJ cI cZ cB : ClassId) (h1 pB pW pS pA pQ pC pR pT pD : Nat) (sz : Nat) (a1 : Int32) (a2 : Int32) (kb : (Nat → Int32)) (kw : (Nat → Int32)) (ks : (Nat → Int32)) (ka : (Nat → Int32)) (kq : (Nat → Int32)) (kc : (Nat → Int32)) (kr : (Nat → Int32)) (kt : (Nat → Int32)) (kd : (Nat → Int32)) (many : Int32) (tsz : Int32) (thr : Int32) (post : Int32 → (Nat → Int32) → (Nat → Int32) → (Nat → Int32) → (Nat → Int32) → (Nat → Int32) → (Nat → Int32) → (Nat → Int32) → (Nat → Int32) → (Nat → Int32) → Int32 → Int32 → Int32 → Prop) (hw : wp_M_order post a1 a2 kb kw ks ka kq kc kr kt kd many tsz thr) : Met l yn_M_order ws_M_order rm_M_order (va_Pc [.ref h1, .int a1, .int a2] (pc_W (dC, dI) (ty_4 cJ cI cZ cB) (wd_M h1 pB pW pS pA pQ pC pR pT pD cJ cI cZ cB kb kw ks ka kq kc kr kt kd many tsz thr) sz)) (qi_M dC dI cJ cI cZ cB h1 pB pW pS pA pQ pC pR pT pD post (va_A (wd_M h1 pB pW pS pA pQ pC pR pT pD cJ cI cZ cB kb kw ks ka kq kc kr kt kd many tsz thr) sz)) 0 0 (va_A (wd_M h1 pB pW pS pA pQ pC pR pT pD cJ cI cZ cB kb kw ks ka kq kc kr kt kd many tsz thr) sz) := by
  refine Met.ofW (cc := cd_M_order) (maxL := 4) (ret := (some .int)) (by decide) rfl ?_
  intro p e s m args below meth c s₁ B hml hv
  obtain ⟨rfl, hsz, hP, hK, hD0, hE⟩ := hv
  have hx := B.exec
  have hb := B.bytes
  have hr := B.returns
  have hts := atoms_spec (ws := ws_M_order) B.pre
  have hq : ∀ {w : Cond}, w ∈ wg_all → w.before ([.ref h1, .int a1, .int a2] : List Value).toArray s = true := fun h => hts _ (List.mem_cons_of_mem _ h)
  have hu : ∀ L : List Cond, (∀ w ∈ L, w ∈ wg_all) → ∀ w ∈ L, w ∈ ws_M_order := fun L h w hw => List.mem_cons_of_mem _ (h w hw)
  have hown : s.vm.findClass "FourWordsModel" = some m.cls := findClass_of_methodNamed B.named
  have hlocks := B.notSynchronized
  subst hsz
  have hD := hD0.self (sz := s.heap.size)
  generalize hAe : va_A (wd_M h1 pB pW pS pA pQ pC pR pT pD cJ cI cZ cB kb kw ks ka kq kc kr kt kd many tsz thr) s.heap.size = A at hD ⊢
  have hA : ∀ q : Nat, s.heap.size ≤ q → A q := fun q h => by rw [← hAe]; exact Or.inr h
  have hS : va_S A s.heap s.heap [] := va_S.rf
  have hl := lv_entry [.ref h1, .int a1, .int a2] (n := 4) (Nat.le_of_ble_eq_true rfl)
  rw [lg_entry_eq]
  generalize (lg_sl [.ref h1, .int a1, .int a2] ++ List.replicate (4 - (lg_sl [.ref h1, .int a1, .int a2]).length) Slot.unset).toArray = ls at hl ⊢
  have hl : lv_has ls 4 [(0, .ref h1), (1, .int a1), (2, .int a2)] := hl
  have B_67 : ∀ (H : Heap) (locs : List Loc) (ls : Array Slot) (t0 : Int32) (kb : (Nat → Int32)) (kw : (Nat → Int32)) (ks : (Nat → Int32)) (ka : (Nat → Int32)) (kq : (Nat → Int32)) (kc : (Nat → Int32)) (kr : (Nat → Int32)) (kt : (Nat → Int32)) (kd : (Nat → Int32)) (many : Int32) (tsz : Int32) (thr : Int32), wp_M_order_67 post t0 kb kw ks ka kq kc kr kt kd many tsz thr → va_P (dC, dI) cs_3 (wd_M h1 pB pW pS pA pQ pC pR pT pD cJ cI cZ cB kb kw ks ka kq kc kr kt kd many tsz thr) H → va_D A (wd_M h1 pB pW pS pA pQ pC pR pT pD cJ cI cZ cB kb kw ks ka kq kc kr kt kd many tsz thr) → va_S A s.heap H locs → lv_has ls 4 [] → W p l e (headSpec ws_M_order rm_M_order).room s m ([.ref h1, .int a1, .int a2] : List Value).toArray below meth c H locs 0 0 (MQ below (qi_M dC dI cJ cI cZ cB h1 pB pW pS pA pQ pC pR pT pD post A) ([.ref h1, .int a1, .int a2] : List Value).toArray s 0 0 A) (F0 m 67 ls [.int t0]) := by
    intro H locs ls t0 kb kw ks ka kq kc kr kt kd many tsz thr hw hP hD hS hl
    unfold wp_M_order_67 at hw
    exact W.iret (v := t0) hx hb hr (fun t ht hW => ⟨⟨t0, (kb, kw, ks, ka, kq, kc, kr, kt, kd, many, tsz, thr), rfl, hw, by rw [ht]; exact hP, va_K.moved hW.alike hK, hD⟩, hS.F ht⟩) hS.2.2 dc_M_order_67
  have B_59 : ∀ (H : Heap) (locs : List Loc) (ls : Array Slot) (t0 : Int32) (t1 : Int32) (kb : (Nat → Int32)) (kw : (Nat → Int32)) (ks : (Nat → Int32)) (ka : (Nat → Int32)) (kq : (Nat → Int32)) (kc : (Nat → Int32)) (kr : (Nat → Int32)) (kt : (Nat → Int32)) (kd : (Nat → Int32)) (many : Int32) (tsz : Int32) (thr : Int32), wp_M_order_59 post t0 t1 kb kw ks ka kq kc kr kt kd many tsz thr → va_P (dC, dI) cs_3 (wd_M h1 pB pW pS pA pQ pC pR pT pD cJ cI cZ cB kb kw ks ka kq kc kr kt kd many tsz thr) H → va_D A (wd_M h1 pB pW pS pA pQ pC pR pT pD cJ cI cZ cB kb kw ks ka kq kc kr kt kd many tsz thr) → va_S A s.heap H locs → lv_has ls 4 [] → W p l e (headSpec ws_M_order rm_M_order).room s m ([.ref h1, .int a1, .int a2] : List Value).toArray below meth c H locs 0 0 (MQ below (qi_M dC dI cJ cI cZ cB h1 pB pW pS pA pQ pC pR pT pD post A) ([.ref h1, .int a1, .int a2] : List Value).toArray s 0 0 A) (F0 m 59 ls [.int t0, .int t1]) := by
    intro H locs ls t0 t1 kb kw ks ka kq kc kr kt kd many tsz thr hw hP hD hS hl
    unfold wp_M_order_59 at hw
    obtain ⟨hw1, hw2⟩ := hw
    refine lv_icmp_ne (tgt := 66) hx hb dc_M_order_59 (by decide) (fun hc => ?_) (fun hc => ?_)
    · have hw := hw1 hc
      clear hw1 hw2
      refine lv_iconst (v := 1) hx hb dc_M_order_66 (by decide) ?_
      exact B_67 _ _ _ (1 : Int32) kb kw ks ka kq kc kr kt kd many tsz thr hw hP hD hS (lv_sub hl [] rfl)
    · have hw := hw2 (fun h9 => h9 hc)
      clear hw1 hw2
      refine lv_iconst (v := (-1)) hx hb dc_M_order_62 (by decide) ?_
      refine lv_goto (tgt := 67) hx hb dc_M_order_63 (by decide) ?_
      exact B_67 _ _ _ (-1 : Int32) kb kw ks ka kq kc kr kt kd many tsz thr hw hP hD hS (lv_sub hl [] rfl)
  have B_58 : ∀ (H : Heap) (locs : List Loc) (ls : Array Slot) (t0 : Int32) (kb : (Nat → Int32)) (kw : (Nat → Int32)) (ks : (Nat → Int32)) (ka : (Nat → Int32)) (kq : (Nat → Int32)) (kc : (Nat → Int32)) (kr : (Nat → Int32)) (kt : (Nat → Int32)) (kd : (Nat → Int32)) (many : Int32) (tsz : Int32) (thr : Int32), wp_M_order_58 post t0 kb kw ks ka kq kc kr kt kd many tsz thr → va_P (dC, dI) cs_3 (wd_M h1 pB pW pS pA pQ pC pR pT pD cJ cI cZ cB kb kw ks ka kq kc kr kt kd many tsz thr) H → va_D A (wd_M h1 pB pW pS pA pQ pC pR pT pD cJ cI cZ cB kb kw ks ka kq kc kr kt kd many tsz thr) → va_S A s.heap H locs → lv_has ls 4 [] → W p l e (headSpec ws_M_order rm_M_order).room s m ([.ref h1, .int a1, .int a2] : List Value).toArray below meth c H locs 0 0 (MQ below (qi_M dC dI cJ cI cZ cB h1 pB pW pS pA pQ pC pR pT pD post A) ([.ref h1, .int a1, .int a2] : List Value).toArray s 0 0 A) (F0 m 58 ls [.int t0]) := by
    intro H locs ls t0 kb kw ks ka kq kc kr kt kd many tsz thr hw hP hD hS hl
    unfold wp_M_order_58 at hw
    refine lv_iconst (v := 0) hx hb dc_M_order_58 (by decide) ?_
    exact B_59 _ _ _ (0 : Int32) t0 kb kw ks ka kq kc kr kt kd many tsz thr hw hP hD hS (lv_sub hl [] rfl)
  have B_43 : ∀ (H : Heap) (locs : List Loc) (ls : Array Slot) (x1 : Int32) (x2 : Int32) (x3 : Int32) (t0 : Int32) (kb : (Nat → Int32)) (kw : (Nat → Int32)) (ks : (Nat → Int32)) (ka : (Nat → Int32)) (kq : (Nat → Int32)) (kc : (Nat → Int32)) (kr : (Nat → Int32)) (kt : (Nat → Int32)) (kd : (Nat → Int32)) (many : Int32) (tsz : Int32) (thr : Int32), wp_M_order_43 post x1 x2 x3 t0 kb kw ks ka kq kc kr kt kd many tsz thr → va_P (dC, dI) cs_3 (wd_M h1 pB pW pS pA pQ pC pR pT pD cJ cI cZ cB kb kw ks ka kq kc kr kt kd many tsz thr) H → va_D A (wd_M h1 pB pW pS pA pQ pC pR pT pD cJ cI cZ cB kb kw ks ka kq kc kr kt kd many tsz thr) → va_S A s.heap H locs → lv_has ls 4 [(1, .int x1), (2, .int x2), (3, .int x3)] → W p l e (headSpec ws_M_order rm_M_order).room s m ([.ref h1, .int a1, .int a2] : List Value).toArray below meth c H locs 0 0 (MQ below (qi_M dC dI cJ cI cZ cB h1 pB pW pS pA pQ pC pR pT pD post A) ([.ref h1, .int a1, .int a2] : List Value).toArray s 0 0 A) (F0 m 43 ls [.int t0]) := by
    intro H locs ls x1 x2 x3 t0 kb kw ks ka kq kc kr kt kd many tsz thr hw hP hD hS hl
    unfold wp_M_order_43 at hw
    refine lv_iload_n hx hb dc_M_order_43 rfl (lv_at hl 0 rfl) ?_
    obtain ⟨hw1, hw2⟩ := hw
    refine lv_if_eq (tgt := 58) hx hb dc_M_order_44 (by decide) (fun hc => ?_) (fun hc => ?_)
    · have hw := hw1 hc
      clear hw1 hw2
      exact B_58 _ _ _ t0 kb kw ks ka kq kc kr kt kd many tsz thr hw hP hD hS (lv_sub hl [] rfl)
    · have hw := hw2 hc
      clear hw1 hw2
      refine lv_iload_n hx hb dc_M_order_47 rfl (lv_at hl 2 rfl) ?_
      refine lv_iload_n hx hb dc_M_order_48 rfl (lv_at hl 1 rfl) ?_
      refine lv_iconst (v := 1) hx hb dc_M_order_49 (by decide) ?_
      refine lv_isub hx hb dc_M_order_50 ?_
      obtain ⟨hw1, hw2⟩ := hw
      refine lv_icmp_ne (tgt := 58) hx hb dc_M_order_51 (by decide) (fun hc => ?_) (fun hc => ?_)
      · have hw := hw1 hc
        clear hw1 hw2
        exact B_58 _ _ _ t0 kb kw ks ka kq kc kr kt kd many tsz thr hw hP hD hS (lv_sub hl [] rfl)
      · have hw := hw2 (fun h9 => h9 hc)
        clear hw1 hw2
        refine lv_iconst (v := 1) hx hb dc_M_order_54 (by decide) ?_
        refine lv_goto (tgt := 59) hx hb dc_M_order_55 (by decide) ?_
        exact B_59 _ _ _ (1 : Int32) t0 kb kw ks ka kq kc kr kt kd many tsz thr hw hP hD hS (lv_sub hl [] rfl)
  have B_4 : ∀ (n4 : Nat) (H : Heap) (locs : List Loc) (ls : Array Slot) (x1 : Int32) (x2 : Int32) (x3 : Int32) (kb : (Nat → Int32)) (kw : (Nat → Int32)) (ks : (Nat → Int32)) (ka : (Nat → Int32)) (kq : (Nat → Int32)) (kc : (Nat → Int32)) (kr : (Nat → Int32)) (kt : (Nat → Int32)) (kd : (Nat → Int32)) (many : Int32) (tsz : Int32) (thr : Int32), wp_M_order_4 post n4 x1 x2 x3 kb kw ks ka kq kc kr kt kd many tsz thr → va_P (dC, dI) cs_3 (wd_M h1 pB pW pS pA pQ pC pR pT pD cJ cI cZ cB kb kw ks ka kq kc kr kt kd many tsz thr) H → va_D A (wd_M h1 pB pW pS pA pQ pC pR pT pD cJ cI cZ cB kb kw ks ka kq kc kr kt kd many tsz thr) → va_S A s.heap H locs → lv_has ls 4 [(0, .ref h1), (1, .int x1), (2, .int x2), (3, .int x3)] → W p l e (headSpec ws_M_order rm_M_order).room s m ([.ref h1, .int a1, .int a2] : List Value).toArray below meth c H locs 0 0 (MQ below (qi_M dC dI cJ cI cZ cB h1 pB pW pS pA pQ pC pR pT pD post A) ([.ref h1, .int a1, .int a2] : List Value).toArray s 0 0 A) (F0 m 4 ls []) := by
    intro n4
    induction n4 with
    | zero => intro H locs ls x1 x2 x3 kb kw ks ka kq kc kr kt kd many tsz thr hw; exact False.elim hw
    | succ n4 ih =>
      intro H locs ls x1 x2 x3 kb kw ks ka kq kc kr kt kd many tsz thr hw hP hD hS hl
      unfold wp_M_order_4 at hw
      refine lv_iload_n hx hb dc_M_order_4 rfl (lv_at hl 3 rfl) ?_
      obtain ⟨hw1, hw2⟩ := hw
      refine lv_if_lt (tgt := 74) hx hb dc_M_order_5 (by decide) (fun hc => ?_) (fun hc => ?_)
      · have hw := hw1 hc
        clear hw1 hw2
        refine lv_iconst (v := 0) hx hb dc_M_order_74 (by decide) ?_
        exact W.iret (v := (0 : Int32)) hx hb hr (fun t ht hW => ⟨⟨(0 : Int32), (kb, kw, ks, ka, kq, kc, kr, kt, kd, many, tsz, thr), rfl, hw, by rw [ht]; exact hP, va_K.moved hW.alike hK, hD⟩, hS.F ht⟩) hS.2.2 dc_M_order_75
      · have hw := hw2 hc
        clear hw1 hw2
        refine lv_aload_n hx hb dc_M_order_8 rfl (lv_at hl 0 rfl) ?_
        refine va_get (D := (dC, dI)) (ci := 2) (v := .ref pA) (C := "FourWordsModel") (T := tb_M) (N := 12) hx hb hts (hu _ um_M) hown hK hP 0 rfl rfl 3 (by decide) (hq mw_t463) (fun _ h9 => h9) rfl dc_M_order_9 ?_
        refine lv_iload_n hx hb dc_M_order_12 rfl (lv_at hl 3 rfl) ?_
        obtain ⟨hin, hw⟩ := hw
        refine va_bald hx hb hK hP 4 3 rfl rfl hin dc_M_order_13 ?_
        refine lv_aload_n hx hb dc_M_order_14 rfl (lv_at hl 0 rfl) ?_
        refine va_get (D := (dC, dI)) (ci := 2) (v := .ref pQ) (C := "FourWordsModel") (T := tb_M) (N := 12) hx hb hts (hu _ um_M) hown hK hP 0 rfl rfl 4 (by decide) (hq mw_t464) (fun _ h9 => h9) rfl dc_M_order_15 ?_
        refine lv_iload_n hx hb dc_M_order_18 rfl (lv_at hl 3 rfl) ?_
        obtain ⟨hin, hw⟩ := hw
        refine va_bald hx hb hK hP 5 3 rfl rfl hin dc_M_order_19 ?_
        obtain ⟨hw1, hw2⟩ := hw
        refine lv_icmp_eq (tgt := 68) hx hb dc_M_order_20 (by decide) (fun hc => ?_) (fun hc => ?_)
        · have hw := hw1 hc
          clear hw1 hw2
          refine lv_iinc (lv' := [(3, .int (x3 + (-1))), (0, .ref h1), (1, .int x1), (2, .int x2)]) hx hb dc_M_order_68 hl (k := 3) rfl (ic_m1 _) (Nat.le_of_ble_eq_true rfl) rfl (fun ls hl => ?_)
          refine lv_goto (tgt := 4) hx hb dc_M_order_71 (by decide) ?_
          exact ih _ _ _ x1 x2 (x3 + (-1)) kb kw ks ka kq kc kr kt kd many tsz thr hw hP hD hS (lv_sub hl [1, 2, 3, 0] rfl)
        · have hw := hw2 hc
          clear hw1 hw2
          refine lv_aload_n hx hb dc_M_order_23 rfl (lv_at hl 0 rfl) ?_
          refine va_get (D := (dC, dI)) (ci := 2) (v := .ref pA) (C := "FourWordsModel") (T := tb_M) (N := 12) hx hb hts (hu _ um_M) hown hK hP 0 rfl rfl 3 (by decide) (hq mw_t463) (fun _ h9 => h9) rfl dc_M_order_24 ?_
          refine lv_iload_n hx hb dc_M_order_27 rfl (lv_at hl 3 rfl) ?_
          obtain ⟨hin, hw⟩ := hw
          refine va_bald hx hb hK hP 4 3 rfl rfl hin dc_M_order_28 ?_
          refine lv_aload_n hx hb dc_M_order_29 rfl (lv_at hl 0 rfl) ?_
          refine va_get (D := (dC, dI)) (ci := 2) (v := .ref pQ) (C := "FourWordsModel") (T := tb_M) (N := 12) hx hb hts (hu _ um_M) hown hK hP 0 rfl rfl 4 (by decide) (hq mw_t464) (fun _ h9 => h9) rfl dc_M_order_30 ?_
          refine lv_iload_n hx hb dc_M_order_33 rfl (lv_at hl 3 rfl) ?_
          obtain ⟨hin, hw⟩ := hw
          refine va_bald hx hb hK hP 5 3 rfl rfl hin dc_M_order_34 ?_
          obtain ⟨hw1, hw2⟩ := hw
          refine lv_icmp_le (tgt := 42) hx hb dc_M_order_35 (by decide) (fun hc => ?_) (fun hc => ?_)
          · have hw := hw1 hc
            clear hw1 hw2
            refine lv_iconst (v := 0) hx hb dc_M_order_42 (by decide) ?_
            exact B_43 _ _ _ x1 x2 x3 (0 : Int32) kb kw ks ka kq kc kr kt kd many tsz thr hw hP hD hS (lv_sub hl [1, 2, 3] rfl)
          · have hw := hw2 hc
            clear hw1 hw2
            refine lv_iconst (v := 1) hx hb dc_M_order_38 (by decide) ?_
            refine lv_goto (tgt := 43) hx hb dc_M_order_39 (by decide) ?_
            exact B_43 _ _ _ x1 x2 x3 (1 : Int32) kb kw ks ka kq kc kr kt kd many tsz thr hw hP hD hS (lv_sub hl [1, 2, 3] rfl)
  unfold wp_M_order at hw
  refine lv_iload_n hx hb dc_M_order_0 rfl (lv_at hl 2 rfl) ?_
  refine lv_iconst (v := 1) hx hb dc_M_order_1 (by decide) ?_
  refine lv_isub hx hb dc_M_order_2 ?_
  refine lv_topi (fun v3 e3 => ?_)
  have hw := hw v3 e3
  refine lv_istore_n (lv' := [(3, .int v3), (0, .ref h1), (1, .int a1), (2, .int a2)]) hx hb dc_M_order_3 rfl hl (Nat.le_of_ble_eq_true rfl) rfl (fun ls hl => ?_)
  obtain ⟨n4, hw⟩ := hw
  exact B_4 n4 _ _ _ a1 a2 v3 kb kw ks ka kq kc kr kt kd many tsz thr hw hP hD hS (lv_sub hl [1, 2, 3, 0] rfl)

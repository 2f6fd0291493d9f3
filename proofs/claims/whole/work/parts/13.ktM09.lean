set_option maxHeartbeats 4000000 in
set_option maxRecDepth 100000 in
theorem kt_M_choose (l : Launch) (dC : Nat → ClassId) (dI : Nat → Nat → Nat) (cJ cI cZ cB : ClassId) (h1 pB pW pS pA pQ pC pR pT pD : Nat) (sz : Nat) (kb : (Nat → Int32)) (kw : (Nat → Int32)) (ks : (Nat → Int32)) (ka : (Nat → Int32)) (kq : (Nat → Int32)) (kc : (Nat → Int32)) (kr : (Nat → Int32)) (kt : (Nat → Int32)) (kd : (Nat → Int32)) (many : Int32) (tsz : Int32) (thr : Int32) (post : (Nat → Int32) → (Nat → Int32) → (Nat → Int32) → (Nat → Int32) → (Nat → Int32) → (Nat → Int32) → (Nat → Int32) → (Nat → Int32) → (Nat → Int32) → Int32 → Int32 → Int32 → Prop) (hw : wp_M_choose post kb kw ks ka kq kc kr kt kd many tsz thr) : Met l yn_M_choose ws_M_choose rm_M_choose (va_Pc [.ref h1] (pc_W (dC, dI) (ty_4 cJ cI cZ cB) (wd_M h1 pB pW pS pA pQ pC pR pT pD cJ cI cZ cB kb kw ks ka kq kc kr kt kd many tsz thr) sz)) (qv_M dC dI cJ cI cZ cB h1 pB pW pS pA pQ pC pR pT pD post (va_A (wd_M h1 pB pW pS pA pQ pC pR pT pD cJ cI cZ cB kb kw ks ka kq kc kr kt kd many tsz thr) sz)) 0 0 (va_A (wd_M h1 pB pW pS pA pQ pC pR pT pD cJ cI cZ cB kb kw ks ka kq kc kr kt kd many tsz thr) sz) := by
  refine Met.ofW (cc := cd_M_choose) (maxL := 6) (ret := none) (by decide) rfl ?_
  intro p e s m args below meth c s₁ B hml hv
  obtain ⟨rfl, hsz, hP, hK, hD0, hE⟩ := hv
  have hx := B.exec
  have hb := B.bytes
  have hr := B.returns
  have hts := atoms_spec (ws := ws_M_choose) B.pre
  have hq : ∀ {w : Cond}, w ∈ wg_all → w.before ([.ref h1] : List Value).toArray s = true := fun h => hts _ (List.mem_cons_of_mem _ h)
  have hu : ∀ L : List Cond, (∀ w ∈ L, w ∈ wg_all) → ∀ w ∈ L, w ∈ ws_M_choose := fun L h w hw => List.mem_cons_of_mem _ (h w hw)
  have hown : s.vm.findClass "FourWordsModel" = some m.cls := findClass_of_methodNamed B.named
  have hlocks := B.notSynchronized
  subst hsz
  have hD := hD0.self (sz := s.heap.size)
  generalize hAe : va_A (wd_M h1 pB pW pS pA pQ pC pR pT pD cJ cI cZ cB kb kw ks ka kq kc kr kt kd many tsz thr) s.heap.size = A at hD ⊢
  have hA : ∀ q : Nat, s.heap.size ≤ q → A q := fun q h => by rw [← hAe]; exact Or.inr h
  have hS : va_S A s.heap s.heap [] := va_S.rf
  have hl := lv_entry [.ref h1] (n := 6) (Nat.le_of_ble_eq_true rfl)
  rw [lg_entry_eq]
  generalize (lg_sl [.ref h1] ++ List.replicate (6 - (lg_sl [.ref h1]).length) Slot.unset).toArray = ls at hl ⊢
  have hl : lv_has ls 6 [(0, .ref h1)] := hl
  have B_184 : ∀ (K102 : Int32 → Int32 → Int32 → Int32 → (Nat → Int32) → (Nat → Int32) → (Nat → Int32) → (Nat → Int32) → (Nat → Int32) → (Nat → Int32) → (Nat → Int32) → (Nat → Int32) → (Nat → Int32) → Int32 → Int32 → Int32 → Prop) (hK102 : ∀ (H : Heap) (locs : List Loc) (ls : Array Slot) (x1 : Int32) (x3 : Int32) (x4 : Int32) (x5 : Int32) (kb : (Nat → Int32)) (kw : (Nat → Int32)) (ks : (Nat → Int32)) (ka : (Nat → Int32)) (kq : (Nat → Int32)) (kc : (Nat → Int32)) (kr : (Nat → Int32)) (kt : (Nat → Int32)) (kd : (Nat → Int32)) (many : Int32) (tsz : Int32) (thr : Int32), K102 x1 x3 x4 x5 kb kw ks ka kq kc kr kt kd many tsz thr → va_P (dC, dI) cs_3 (wd_M h1 pB pW pS pA pQ pC pR pT pD cJ cI cZ cB kb kw ks ka kq kc kr kt kd many tsz thr) H → va_D A (wd_M h1 pB pW pS pA pQ pC pR pT pD cJ cI cZ cB kb kw ks ka kq kc kr kt kd many tsz thr) → va_S A s.heap H locs → lv_has ls 6 [(0, .ref h1), (1, .int x1), (3, .int x3), (4, .int x4), (5, .int x5)] → W p l e (headSpec ws_M_choose rm_M_choose).room s m ([.ref h1] : List Value).toArray below meth c H locs 0 0 (MQ below (qv_M dC dI cJ cI cZ cB h1 pB pW pS pA pQ pC pR pT pD post A) ([.ref h1] : List Value).toArray s 0 0 A) (F0 m 102 ls [])) (H : Heap) (locs : List Loc) (ls : Array Slot) (x1 : Int32) (x3 : Int32) (x4 : Int32) (x5 : Int32) (t0 : Int32) (t1 : Int32) (kb : (Nat → Int32)) (kw : (Nat → Int32)) (ks : (Nat → Int32)) (ka : (Nat → Int32)) (kq : (Nat → Int32)) (kc : (Nat → Int32)) (kr : (Nat → Int32)) (kt : (Nat → Int32)) (kd : (Nat → Int32)) (many : Int32) (tsz : Int32) (thr : Int32), wp_M_choose_184 K102 post x1 x3 x4 x5 t0 t1 kb kw ks ka kq kc kr kt kd many tsz thr → va_P (dC, dI) cs_3 (wd_M h1 pB pW pS pA pQ pC pR pT pD cJ cI cZ cB kb kw ks ka kq kc kr kt kd many tsz thr) H → va_D A (wd_M h1 pB pW pS pA pQ pC pR pT pD cJ cI cZ cB kb kw ks ka kq kc kr kt kd many tsz thr) → va_S A s.heap H locs → lv_has ls 6 [(0, .ref h1), (1, .int x1), (3, .int x3), (4, .int x4), (5, .int x5)] → W p l e (headSpec ws_M_choose rm_M_choose).room s m ([.ref h1] : List Value).toArray below meth c H locs 0 0 (MQ below (qv_M dC dI cJ cI cZ cB h1 pB pW pS pA pQ pC pR pT pD post A) ([.ref h1] : List Value).toArray s 0 0 A) (F0 m 184 ls [.int t0, .int t1, .ref pC]) := by
    intro K102 hK102 H locs ls x1 x3 x4 x5 t0 t1 kb kw ks ka kq kc kr kt kd many tsz thr hw hP hD hS hl
    unfold wp_M_choose_184 at hw
    obtain ⟨hin, hw⟩ := hw
    refine va_bast hx hb hK hP hD hS 6 3 rfl rfl hin dc_M_choose_184 (fun H locs hP hD hS => ?_)
    have hP : va_P (dC, dI) cs_3 (wd_M h1 pB pW pS pA pQ pC pR pT pD cJ cI cZ cB kb kw ks ka kq (upd kc t1.toNatClampNeg (vp_nar .byte t0)) kr kt kd many tsz thr) H := hP
    have hD : va_D A (wd_M h1 pB pW pS pA pQ pC pR pT pD cJ cI cZ cB kb kw ks ka kq (upd kc t1.toNatClampNeg (vp_nar .byte t0)) kr kt kd many tsz thr) := hD
    refine lv_iinc (lv' := [(5, .int (x5 + 1)), (0, .ref h1), (1, .int x1), (3, .int x3), (4, .int x4)]) hx hb dc_M_choose_185 hl (k := 4) rfl (ic_p1 _) (Nat.le_of_ble_eq_true rfl) rfl (fun ls hl => ?_)
    refine lv_goto (tgt := 102) hx hb dc_M_choose_188 (by decide) ?_
    exact hK102 _ _ _ x1 x3 x4 (x5 + 1) kb kw ks ka kq (upd kc t1.toNatClampNeg (vp_nar .byte t0)) kr kt kd many tsz thr hw hP hD hS (lv_sub hl [1, 2, 3, 4, 0] rfl)
  have B_183 : ∀ (K102 : Int32 → Int32 → Int32 → Int32 → (Nat → Int32) → (Nat → Int32) → (Nat → Int32) → (Nat → Int32) → (Nat → Int32) → (Nat → Int32) → (Nat → Int32) → (Nat → Int32) → (Nat → Int32) → Int32 → Int32 → Int32 → Prop) (hK102 : ∀ (H : Heap) (locs : List Loc) (ls : Array Slot) (x1 : Int32) (x3 : Int32) (x4 : Int32) (x5 : Int32) (kb : (Nat → Int32)) (kw : (Nat → Int32)) (ks : (Nat → Int32)) (ka : (Nat → Int32)) (kq : (Nat → Int32)) (kc : (Nat → Int32)) (kr : (Nat → Int32)) (kt : (Nat → Int32)) (kd : (Nat → Int32)) (many : Int32) (tsz : Int32) (thr : Int32), K102 x1 x3 x4 x5 kb kw ks ka kq kc kr kt kd many tsz thr → va_P (dC, dI) cs_3 (wd_M h1 pB pW pS pA pQ pC pR pT pD cJ cI cZ cB kb kw ks ka kq kc kr kt kd many tsz thr) H → va_D A (wd_M h1 pB pW pS pA pQ pC pR pT pD cJ cI cZ cB kb kw ks ka kq kc kr kt kd many tsz thr) → va_S A s.heap H locs → lv_has ls 6 [(0, .ref h1), (1, .int x1), (3, .int x3), (4, .int x4), (5, .int x5)] → W p l e (headSpec ws_M_choose rm_M_choose).room s m ([.ref h1] : List Value).toArray below meth c H locs 0 0 (MQ below (qv_M dC dI cJ cI cZ cB h1 pB pW pS pA pQ pC pR pT pD post A) ([.ref h1] : List Value).toArray s 0 0 A) (F0 m 102 ls [])) (H : Heap) (locs : List Loc) (ls : Array Slot) (x1 : Int32) (x3 : Int32) (x4 : Int32) (x5 : Int32) (t0 : Int32) (kb : (Nat → Int32)) (kw : (Nat → Int32)) (ks : (Nat → Int32)) (ka : (Nat → Int32)) (kq : (Nat → Int32)) (kc : (Nat → Int32)) (kr : (Nat → Int32)) (kt : (Nat → Int32)) (kd : (Nat → Int32)) (many : Int32) (tsz : Int32) (thr : Int32), wp_M_choose_183 K102 post x1 x3 x4 x5 t0 kb kw ks ka kq kc kr kt kd many tsz thr → va_P (dC, dI) cs_3 (wd_M h1 pB pW pS pA pQ pC pR pT pD cJ cI cZ cB kb kw ks ka kq kc kr kt kd many tsz thr) H → va_D A (wd_M h1 pB pW pS pA pQ pC pR pT pD cJ cI cZ cB kb kw ks ka kq kc kr kt kd many tsz thr) → va_S A s.heap H locs → lv_has ls 6 [(0, .ref h1), (1, .int x1), (3, .int x3), (4, .int x4), (5, .int x5)] → W p l e (headSpec ws_M_choose rm_M_choose).room s m ([.ref h1] : List Value).toArray below meth c H locs 0 0 (MQ below (qv_M dC dI cJ cI cZ cB h1 pB pW pS pA pQ pC pR pT pD post A) ([.ref h1] : List Value).toArray s 0 0 A) (F0 m 183 ls [.int t0, .ref pC]) := by
    intro K102 hK102 H locs ls x1 x3 x4 x5 t0 kb kw ks ka kq kc kr kt kd many tsz thr hw hP hD hS hl
    unfold wp_M_choose_183 at hw
    refine lv_iconst (v := 3) hx hb dc_M_choose_183 (by decide) ?_
    exact B_184 K102 hK102 _ _ _ x1 x3 x4 x5 (3 : Int32) t0 kb kw ks ka kq kc kr kt kd many tsz thr hw hP hD hS (lv_sub hl [0, 1, 2, 3, 4] rfl)
  have B_102 : ∀ (n102 : Nat) (H : Heap) (locs : List Loc) (ls : Array Slot) (x1 : Int32) (x3 : Int32) (x4 : Int32) (x5 : Int32) (kb : (Nat → Int32)) (kw : (Nat → Int32)) (ks : (Nat → Int32)) (ka : (Nat → Int32)) (kq : (Nat → Int32)) (kc : (Nat → Int32)) (kr : (Nat → Int32)) (kt : (Nat → Int32)) (kd : (Nat → Int32)) (many : Int32) (tsz : Int32) (thr : Int32), wp_M_choose_102 post n102 x1 x3 x4 x5 kb kw ks ka kq kc kr kt kd many tsz thr → va_P (dC, dI) cs_3 (wd_M h1 pB pW pS pA pQ pC pR pT pD cJ cI cZ cB kb kw ks ka kq kc kr kt kd many tsz thr) H → va_D A (wd_M h1 pB pW pS pA pQ pC pR pT pD cJ cI cZ cB kb kw ks ka kq kc kr kt kd many tsz thr) → va_S A s.heap H locs → lv_has ls 6 [(0, .ref h1), (1, .int x1), (3, .int x3), (4, .int x4), (5, .int x5)] → W p l e (headSpec ws_M_choose rm_M_choose).room s m ([.ref h1] : List Value).toArray below meth c H locs 0 0 (MQ below (qv_M dC dI cJ cI cZ cB h1 pB pW pS pA pQ pC pR pT pD post A) ([.ref h1] : List Value).toArray s 0 0 A) (F0 m 102 ls []) := by
    intro n102
    induction n102 with
    | zero => intro H locs ls x1 x3 x4 x5 kb kw ks ka kq kc kr kt kd many tsz thr hw; exact False.elim hw
    | succ n102 ih =>
      intro H locs ls x1 x3 x4 x5 kb kw ks ka kq kc kr kt kd many tsz thr hw hP hD hS hl
      unfold wp_M_choose_102 at hw
      refine lv_iload hx hb dc_M_choose_102 (lv_at hl 4 rfl) ?_
      refine lv_iload_n hx hb dc_M_choose_104 rfl (lv_at hl 1 rfl) ?_
      obtain ⟨hw1, hw2⟩ := hw
      refine lv_icmp_ge (tgt := 191) hx hb dc_M_choose_105 (by decide) (fun hc => ?_) (fun hc => ?_)
      · have hw := hw1 hc
        clear hw1 hw2
        refine lv_aload_n hx hb dc_M_choose_191 rfl (lv_at hl 0 rfl) ?_
        refine lv_dup hx hb dc_M_choose_192 rfl ?_
        refine va_get (D := (dC, dI)) (ci := 2) (v := .int many) (C := "FourWordsModel") (T := tb_M) (N := 12) hx hb hts (hu _ um_M) hown hK hP 0 rfl rfl 8 (by decide) (hq mw_t468) (fun _ h9 => h9) rfl dc_M_choose_193 ?_
        refine lv_iconst (v := 3) hx hb dc_M_choose_196 (by decide) ?_
        refine lv_isub hx hb dc_M_choose_197 ?_
        refine va_put (D := (dC, dI)) (ci := 2) (v := .int (many - (3 : Int32))) (ty := .int) (C := "FourWordsModel") (T := tb_M) (N := 12) hx hb hts (hu _ um_M) ft_M fk_M fn_M hown hK hP hD hS 0 rfl rfl 8 (by decide) (hq mw_t468) (fun _ h9 => h9) rfl (by decide +kernel) rfl rfl (Nat.le_of_ble_eq_true rfl) dc_M_choose_198 (fun H locs hP hD hS => ?_)
        have hP : va_P (dC, dI) cs_3 (wd_M h1 pB pW pS pA pQ pC pR pT pD cJ cI cZ cB kb kw ks ka kq kc kr kt kd (many - (3 : Int32)) tsz thr) H := hP
        have hD : va_D A (wd_M h1 pB pW pS pA pQ pC pR pT pD cJ cI cZ cB kb kw ks ka kq kc kr kt kd (many - (3 : Int32)) tsz thr) := hD
        refine lv_aload_n hx hb dc_M_choose_201 rfl (lv_at hl 0 rfl) ?_
        refine lv_aload_n hx hb dc_M_choose_202 rfl (lv_at hl 0 rfl) ?_
        refine va_get (D := (dC, dI)) (ci := 2) (v := .ref pC) (C := "FourWordsModel") (T := tb_M) (N := 12) hx hb hts (hu _ um_M) hown hK hP 0 rfl rfl 5 (by decide) (hq mw_t465) (fun _ h9 => h9) rfl dc_M_choose_203 ?_
        refine lv_iload_n hx hb dc_M_choose_206 rfl (lv_at hl 1 rfl) ?_
        refine lv_iload_n hx hb dc_M_choose_207 rfl (lv_at hl 2 rfl) ?_
        refine gc_v (S := (Nat → Int32) × (Nat → Int32) × (Nat → Int32) × (Nat → Int32) × (Nat → Int32) × (Nat → Int32) × (Nat → Int32) × (Nat → Int32) × (Nat → Int32) × Int32 × Int32 × Int32) (w1 := (fun u => (wd_M h1 pB pW pS pA pQ pC pR pT pD cJ cI cZ cB u.1 u.2.1 u.2.2.1 u.2.2.2.1 u.2.2.2.2.1 u.2.2.2.2.2.1 u.2.2.2.2.2.2.1 u.2.2.2.2.2.2.2.1 u.2.2.2.2.2.2.2.2.1 u.2.2.2.2.2.2.2.2.2.1 u.2.2.2.2.2.2.2.2.2.2.1 u.2.2.2.2.2.2.2.2.2.2.2))) (wc := (wd_M h1 pB pW pS pA pQ pC pR pT pD cJ cI cZ cB kb kw ks ka kq kc kr kt kd (many - (3 : Int32)) tsz thr)) (wr := ([] : va_W)) (va_runV (As := [.ref pC, .int x1, .int x3]) (rest := []) ⟨hx, hb, hml, hown, hts⟩ (kt_M_give_c l dC dI cJ cI cZ cB h1 pB pW pS pA pQ pC pR pT pD _ x1 x3 kb kw ks ka kq kc kr kt kd (many - (3 : Int32)) tsz thr _ hw) ⟨callB_of 3 hts (gw_in mw_t513) rfl rfl rfl (hq mw_t3) (hq mw_t510) (by decide +kernel) ⟨Nat.le_of_ble_eq_true rfl, Nat.le_of_ble_eq_true rfl⟩, hq mw_t512, hq mw_s35⟩ (pv_W (va_recv (q0 := 0) (ci := 2) hK hP rfl rfl) (hP.sub (ws' := (wd_M h1 pB pW pS pA pQ pC pR pT pD cJ cI cZ cB kb kw ks ka kq kc kr kt kd (many - (3 : Int32)) tsz thr)) [0, 1, 2, 3, 4, 5, 6, 7, 8, 9] rfl) hK (hD.sub (ws' := (wd_M h1 pB pW pS pA pQ pC pR pT pD cJ cI cZ cB kb kw ks ka kq kc kr kt kd (many - (3 : Int32)) tsz thr)) [0, 1, 2, 3, 4, 5, 6, 7, 8, 9] (by decide) rfl) hE) rfl rfl hl.1 rfl (lv_room (Nat.le_of_ble_eq_true rfl)) dc_M_choose_208 ⟨Nat.le_of_ble_eq_true rfl, Nat.le_of_ble_eq_true rfl⟩) hP hD hS hA [0, 1, 2, 3, 4, 5, 6, 7, 8, 9] [] rfl rfl (by decide) (by decide) (fun u H locs hw hP hD hS => ?_)
        obtain ⟨kb208, kw208, ks208, ka208, kq208, kc208, kr208, kt208, kd208, many208, tsz208, thr208⟩ := u
        have hP : va_P (dC, dI) cs_3 (wd_M h1 pB pW pS pA pQ pC pR pT pD cJ cI cZ cB kb208 kw208 ks208 ka208 kq208 kc208 kr208 kt208 kd208 many208 tsz208 thr208) H := hP.sub (ws' := (wd_M h1 pB pW pS pA pQ pC pR pT pD cJ cI cZ cB kb208 kw208 ks208 ka208 kq208 kc208 kr208 kt208 kd208 many208 tsz208 thr208)) [0, 1, 2, 3, 4, 5, 6, 7, 8, 9] rfl
        have hD : va_D A (wd_M h1 pB pW pS pA pQ pC pR pT pD cJ cI cZ cB kb208 kw208 ks208 ka208 kq208 kc208 kr208 kt208 kd208 many208 tsz208 thr208) := hD.sub (ws' := (wd_M h1 pB pW pS pA pQ pC pR pT pD cJ cI cZ cB kb208 kw208 ks208 ka208 kq208 kc208 kr208 kt208 kd208 many208 tsz208 thr208)) [0, 1, 2, 3, 4, 5, 6, 7, 8, 9] (by decide) rfl
        try dsimp only at hw
        exact W.vret hx hb hr (fun t ht hW => ⟨⟨(kb208, kw208, ks208, ka208, kq208, kc208, kr208, kt208, kd208, many208, tsz208, thr208), rfl, hw, by rw [ht]; exact hP, va_K.moved hW.alike hK, hD⟩, hS.F ht⟩) hS.2.2 dc_M_choose_211
      · have hw := hw2 hc
        clear hw1 hw2
        refine lv_aload_n hx hb dc_M_choose_108 rfl (lv_at hl 0 rfl) ?_
        refine va_get (D := (dC, dI)) (ci := 2) (v := .ref pC) (C := "FourWordsModel") (T := tb_M) (N := 12) hx hb hts (hu _ um_M) hown hK hP 0 rfl rfl 5 (by decide) (hq mw_t465) (fun _ h9 => h9) rfl dc_M_choose_109 ?_
        refine lv_iload hx hb dc_M_choose_112 (lv_at hl 4 rfl) ?_
        refine lv_iload hx hb dc_M_choose_114 (lv_at hl 3 rfl) ?_
        refine lv_iconst (v := 1) hx hb dc_M_choose_116 (by decide) ?_
        obtain ⟨hw1, hw2⟩ := hw
        refine lv_icmp_ne (tgt := 130) hx hb dc_M_choose_117 (by decide) (fun hc => ?_) (fun hc => ?_)
        · have hw := hw1 hc
          clear hw1 hw2
          refine lv_iload hx hb dc_M_choose_130 (lv_at hl 3 rfl) ?_
          obtain ⟨hw1, hw2⟩ := hw
          refine lv_if_ne (tgt := 145) hx hb dc_M_choose_132 (by decide) (fun hc => ?_) (fun hc => ?_)
          · have hw := hw1 hc
            clear hw1 hw2
            refine lv_aload_n hx hb dc_M_choose_145 rfl (lv_at hl 0 rfl) ?_
            refine va_get (D := (dC, dI)) (ci := 2) (v := .ref pA) (C := "FourWordsModel") (T := tb_M) (N := 12) hx hb hts (hu _ um_M) hown hK hP 0 rfl rfl 3 (by decide) (hq mw_t463) (fun _ h9 => h9) rfl dc_M_choose_146 ?_
            refine lv_iload hx hb dc_M_choose_149 (lv_at hl 4 rfl) ?_
            obtain ⟨hin, hw⟩ := hw
            refine va_bald hx hb hK hP 4 3 rfl rfl hin dc_M_choose_151 ?_
            refine lv_aload_n hx hb dc_M_choose_152 rfl (lv_at hl 0 rfl) ?_
            refine va_get (D := (dC, dI)) (ci := 2) (v := .ref pQ) (C := "FourWordsModel") (T := tb_M) (N := 12) hx hb hts (hu _ um_M) hown hK hP 0 rfl rfl 4 (by decide) (hq mw_t464) (fun _ h9 => h9) rfl dc_M_choose_153 ?_
            refine lv_iload hx hb dc_M_choose_156 (lv_at hl 4 rfl) ?_
            obtain ⟨hin, hw⟩ := hw
            refine va_bald hx hb hK hP 5 3 rfl rfl hin dc_M_choose_158 ?_
            obtain ⟨hw1, hw2⟩ := hw
            refine lv_icmp_ne (tgt := 183) hx hb dc_M_choose_159 (by decide) (fun hc => ?_) (fun hc => ?_)
            · have hw := hw1 hc
              clear hw1 hw2
              exact B_183 (wp_M_choose_102 post n102) ih _ _ _ x1 x3 x4 x5 x5 kb kw ks ka kq kc kr kt kd many tsz thr hw hP hD hS (lv_sub hl [0, 1, 2, 3, 4] rfl)
            · have hw := hw2 (fun h9 => h9 hc)
              clear hw1 hw2
              refine lv_aload_n hx hb dc_M_choose_162 rfl (lv_at hl 0 rfl) ?_
              refine va_get (D := (dC, dI)) (ci := 2) (v := .ref pA) (C := "FourWordsModel") (T := tb_M) (N := 12) hx hb hts (hu _ um_M) hown hK hP 0 rfl rfl 3 (by decide) (hq mw_t463) (fun _ h9 => h9) rfl dc_M_choose_163 ?_
              refine lv_iload hx hb dc_M_choose_166 (lv_at hl 4 rfl) ?_
              obtain ⟨hin, hw⟩ := hw
              refine va_bald hx hb hK hP 4 3 rfl rfl hin dc_M_choose_168 ?_
              refine lv_iconst (v := 2) hx hb dc_M_choose_169 (by decide) ?_
              obtain ⟨hw1, hw2⟩ := hw
              refine lv_icmp_ge (tgt := 183) hx hb dc_M_choose_170 (by decide) (fun hc => ?_) (fun hc => ?_)
              · have hw := hw1 hc
                clear hw1 hw2
                exact B_183 (wp_M_choose_102 post n102) ih _ _ _ x1 x3 x4 x5 x5 kb kw ks ka kq kc kr kt kd many tsz thr hw hP hD hS (lv_sub hl [0, 1, 2, 3, 4] rfl)
              · have hw := hw2 hc
                clear hw1 hw2
                refine lv_aload_n hx hb dc_M_choose_173 rfl (lv_at hl 0 rfl) ?_
                refine va_get (D := (dC, dI)) (ci := 2) (v := .ref pA) (C := "FourWordsModel") (T := tb_M) (N := 12) hx hb hts (hu _ um_M) hown hK hP 0 rfl rfl 3 (by decide) (hq mw_t463) (fun _ h9 => h9) rfl dc_M_choose_174 ?_
                refine lv_iload hx hb dc_M_choose_177 (lv_at hl 4 rfl) ?_
                obtain ⟨hin, hw⟩ := hw
                refine va_bald hx hb hK hP 4 3 rfl rfl hin dc_M_choose_179 ?_
                refine lv_goto (tgt := 184) hx hb dc_M_choose_180 (by decide) ?_
                exact B_184 (wp_M_choose_102 post n102) ih _ _ _ x1 x3 x4 x5 (ka x5.toNatClampNeg) x5 kb kw ks ka kq kc kr kt kd many tsz thr hw hP hD hS (lv_sub hl [0, 1, 2, 3, 4] rfl)
          · have hw := hw2 (fun h9 => h9 hc)
            clear hw1 hw2
            refine lv_aload_n hx hb dc_M_choose_135 rfl (lv_at hl 0 rfl) ?_
            refine va_get (D := (dC, dI)) (ci := 2) (v := .ref pQ) (C := "FourWordsModel") (T := tb_M) (N := 12) hx hb hts (hu _ um_M) hown hK hP 0 rfl rfl 4 (by decide) (hq mw_t464) (fun _ h9 => h9) rfl dc_M_choose_136 ?_
            refine lv_iload hx hb dc_M_choose_139 (lv_at hl 4 rfl) ?_
            obtain ⟨hin, hw⟩ := hw
            refine va_bald hx hb hK hP 5 3 rfl rfl hin dc_M_choose_141 ?_
            refine lv_goto (tgt := 184) hx hb dc_M_choose_142 (by decide) ?_
            exact B_184 (wp_M_choose_102 post n102) ih _ _ _ x1 x3 x4 x5 (kq x5.toNatClampNeg) x5 kb kw ks ka kq kc kr kt kd many tsz thr hw hP hD hS (lv_sub hl [0, 1, 2, 3, 4] rfl)
        · have hw := hw2 (fun h9 => h9 hc)
          clear hw1 hw2
          refine lv_aload_n hx hb dc_M_choose_120 rfl (lv_at hl 0 rfl) ?_
          refine va_get (D := (dC, dI)) (ci := 2) (v := .ref pA) (C := "FourWordsModel") (T := tb_M) (N := 12) hx hb hts (hu _ um_M) hown hK hP 0 rfl rfl 3 (by decide) (hq mw_t463) (fun _ h9 => h9) rfl dc_M_choose_121 ?_
          refine lv_iload hx hb dc_M_choose_124 (lv_at hl 4 rfl) ?_
          obtain ⟨hin, hw⟩ := hw
          refine va_bald hx hb hK hP 4 3 rfl rfl hin dc_M_choose_126 ?_
          refine lv_goto (tgt := 184) hx hb dc_M_choose_127 (by decide) ?_
          exact B_184 (wp_M_choose_102 post n102) ih _ _ _ x1 x3 x4 x5 (ka x5.toNatClampNeg) x5 kb kw ks ka kq kc kr kt kd many tsz thr hw hP hD hS (lv_sub hl [0, 1, 2, 3, 4] rfl)
  have B_61 : ∀ (H : Heap) (locs : List Loc) (ls : Array Slot) (x1 : Int32) (x2 : Int32) (t0 : Int32) (kb : (Nat → Int32)) (kw : (Nat → Int32)) (ks : (Nat → Int32)) (ka : (Nat → Int32)) (kq : (Nat → Int32)) (kc : (Nat → Int32)) (kr : (Nat → Int32)) (kt : (Nat → Int32)) (kd : (Nat → Int32)) (many : Int32) (tsz : Int32) (thr : Int32), wp_M_choose_61 post x1 x2 t0 kb kw ks ka kq kc kr kt kd many tsz thr → va_P (dC, dI) cs_3 (wd_M h1 pB pW pS pA pQ pC pR pT pD cJ cI cZ cB kb kw ks ka kq kc kr kt kd many tsz thr) H → va_D A (wd_M h1 pB pW pS pA pQ pC pR pT pD cJ cI cZ cB kb kw ks ka kq kc kr kt kd many tsz thr) → va_S A s.heap H locs → lv_has ls 6 [(0, .ref h1), (1, .int x1), (2, .int x2)] → W p l e (headSpec ws_M_choose rm_M_choose).room s m ([.ref h1] : List Value).toArray below meth c H locs 0 0 (MQ below (qv_M dC dI cJ cI cZ cB h1 pB pW pS pA pQ pC pR pT pD post A) ([.ref h1] : List Value).toArray s 0 0 A) (F0 m 61 ls [.int t0]) := by
    intro H locs ls x1 x2 t0 kb kw ks ka kq kc kr kt kd many tsz thr hw hP hD hS hl
    unfold wp_M_choose_61 at hw
    refine lv_istore_n (lv' := [(3, .int t0), (0, .ref h1), (1, .int x1), (2, .int x2)]) hx hb dc_M_choose_61 rfl hl (Nat.le_of_ble_eq_true rfl) rfl (fun ls hl => ?_)
    refine lv_aload_n hx hb dc_M_choose_62 rfl (lv_at hl 1 rfl) ?_
    refine lv_iload_n hx hb dc_M_choose_63 rfl (lv_at hl 0 rfl) ?_
    refine lv_iload_n hx hb dc_M_choose_64 rfl (lv_at hl 2 rfl) ?_
    refine gc_v (S := (Nat → Int32) × (Nat → Int32) × (Nat → Int32) × (Nat → Int32) × (Nat → Int32) × (Nat → Int32) × (Nat → Int32) × (Nat → Int32) × (Nat → Int32) × Int32 × Int32 × Int32) (w1 := (fun u => (wd_M h1 pB pW pS pA pQ pC pR pT pD cJ cI cZ cB u.1 u.2.1 u.2.2.1 u.2.2.2.1 u.2.2.2.2.1 u.2.2.2.2.2.1 u.2.2.2.2.2.2.1 u.2.2.2.2.2.2.2.1 u.2.2.2.2.2.2.2.2.1 u.2.2.2.2.2.2.2.2.2.1 u.2.2.2.2.2.2.2.2.2.2.1 u.2.2.2.2.2.2.2.2.2.2.2))) (wc := (wd_M h1 pB pW pS pA pQ pC pR pT pD cJ cI cZ cB kb kw ks ka kq kc kr kt kd many tsz thr)) (wr := ([] : va_W)) (va_runV (As := [.int t0, .int x1]) (rest := []) ⟨hx, hb, hml, hown, hts⟩ (kt_M_bring l dC dI cJ cI cZ cB h1 pB pW pS pA pQ pC pR pT pD _ t0 x1 kb kw ks ka kq kc kr kt kd many tsz thr _ hw) ⟨callB_of 2 hts (gw_in mw_t605) rfl rfl rfl (hq mw_t3) (hq mw_t602) (by decide +kernel) ⟨Nat.le_of_ble_eq_true rfl, Nat.le_of_ble_eq_true rfl⟩, hq mw_t604, hq mw_s48⟩ (pv_W (va_recv (q0 := 0) (ci := 2) hK hP rfl rfl) (hP.sub (ws' := (wd_M h1 pB pW pS pA pQ pC pR pT pD cJ cI cZ cB kb kw ks ka kq kc kr kt kd many tsz thr)) [0, 1, 2, 3, 4, 5, 6, 7, 8, 9] rfl) hK (hD.sub (ws' := (wd_M h1 pB pW pS pA pQ pC pR pT pD cJ cI cZ cB kb kw ks ka kq kc kr kt kd many tsz thr)) [0, 1, 2, 3, 4, 5, 6, 7, 8, 9] (by decide) rfl) hE) rfl rfl hl.1 rfl (lv_room (Nat.le_of_ble_eq_true rfl)) dc_M_choose_65 ⟨Nat.le_of_ble_eq_true rfl, Nat.le_of_ble_eq_true rfl⟩) hP hD hS hA [0, 1, 2, 3, 4, 5, 6, 7, 8, 9] [] rfl rfl (by decide) (by decide) (fun u H locs hw hP hD hS => ?_)
    obtain ⟨kb65, kw65, ks65, ka65, kq65, kc65, kr65, kt65, kd65, many65, tsz65, thr65⟩ := u
    have hP : va_P (dC, dI) cs_3 (wd_M h1 pB pW pS pA pQ pC pR pT pD cJ cI cZ cB kb65 kw65 ks65 ka65 kq65 kc65 kr65 kt65 kd65 many65 tsz65 thr65) H := hP.sub (ws' := (wd_M h1 pB pW pS pA pQ pC pR pT pD cJ cI cZ cB kb65 kw65 ks65 ka65 kq65 kc65 kr65 kt65 kd65 many65 tsz65 thr65)) [0, 1, 2, 3, 4, 5, 6, 7, 8, 9] rfl
    have hD : va_D A (wd_M h1 pB pW pS pA pQ pC pR pT pD cJ cI cZ cB kb65 kw65 ks65 ka65 kq65 kc65 kr65 kt65 kd65 many65 tsz65 thr65) := hD.sub (ws' := (wd_M h1 pB pW pS pA pQ pC pR pT pD cJ cI cZ cB kb65 kw65 ks65 ka65 kq65 kc65 kr65 kt65 kd65 many65 tsz65 thr65)) [0, 1, 2, 3, 4, 5, 6, 7, 8, 9] (by decide) rfl
    try dsimp only at hw
    refine lv_aload_n hx hb dc_M_choose_68 rfl (lv_at hl 1 rfl) ?_
    refine lv_iload_n hx hb dc_M_choose_69 rfl (lv_at hl 3 rfl) ?_
    refine lv_aload_n hx hb dc_M_choose_70 rfl (lv_at hl 1 rfl) ?_
    refine va_get (D := (dC, dI)) (ci := 2) (v := .ref pC) (C := "FourWordsModel") (T := tb_M) (N := 12) hx hb hts (hu _ um_M) hown hK hP 0 rfl rfl 5 (by decide) (hq mw_t465) (fun _ h9 => h9) rfl dc_M_choose_71 ?_
    refine lv_aload_n hx hb dc_M_choose_74 rfl (lv_at hl 1 rfl) ?_
    refine va_get (D := (dC, dI)) (ci := 2) (v := .ref pW) (C := "FourWordsModel") (T := tb_M) (N := 12) hx hb hts (hu _ um_M) hown hK hP 0 rfl rfl 1 (by decide) (hq mw_t461) (fun _ h9 => h9) rfl dc_M_choose_75 ?_
    refine lv_iload_n hx hb dc_M_choose_78 rfl (lv_at hl 3 rfl) ?_
    obtain ⟨hin, hw⟩ := hw
    refine va_iald hx hb hK hP 2 1 rfl rfl hin dc_M_choose_79 ?_
    refine lv_iconst (v := 0) hx hb dc_M_choose_80 (by decide) ?_
    refine gc_v (S := (Nat → Int32) × (Nat → Int32) × (Nat → Int32) × (Nat → Int32) × (Nat → Int32) × (Nat → Int32) × (Nat → Int32) × (Nat → Int32) × (Nat → Int32) × Int32 × Int32 × Int32) (w1 := (fun u => (wd_M h1 pB pW pS pA pQ pC pR pT pD cJ cI cZ cB u.1 u.2.1 u.2.2.1 u.2.2.2.1 u.2.2.2.2.1 u.2.2.2.2.2.1 u.2.2.2.2.2.2.1 u.2.2.2.2.2.2.2.1 u.2.2.2.2.2.2.2.2.1 u.2.2.2.2.2.2.2.2.2.1 u.2.2.2.2.2.2.2.2.2.2.1 u.2.2.2.2.2.2.2.2.2.2.2))) (wc := (wd_M h1 pB pW pS pA pQ pC pR pT pD cJ cI cZ cB kb65 kw65 ks65 ka65 kq65 kc65 kr65 kt65 kd65 many65 tsz65 thr65)) (wr := ([] : va_W)) (va_runV (As := [.int x2, .ref pC, .int (kw65 x2.toNatClampNeg), .int (0 : Int32)]) (rest := []) ⟨hx, hb, hml, hown, hts⟩ (kt_M_take_c l dC dI cJ cI cZ cB h1 pB pW pS pA pQ pC pR pT pD _ x2 (kw65 x2.toNatClampNeg) (0 : Int32) kb65 kw65 ks65 ka65 kq65 kc65 kr65 kt65 kd65 many65 tsz65 thr65 _ hw) ⟨callB_of 4 hts (gw_in mw_t525) rfl rfl rfl (hq mw_t3) (hq mw_t522) (by decide +kernel) ⟨Nat.le_of_ble_eq_true rfl, Nat.le_of_ble_eq_true rfl⟩, hq mw_t524, hq mw_s37⟩ (pv_W (va_recv (q0 := 0) (ci := 2) hK hP rfl rfl) (hP.sub (ws' := (wd_M h1 pB pW pS pA pQ pC pR pT pD cJ cI cZ cB kb65 kw65 ks65 ka65 kq65 kc65 kr65 kt65 kd65 many65 tsz65 thr65)) [0, 1, 2, 3, 4, 5, 6, 7, 8, 9] rfl) hK (hD.sub (ws' := (wd_M h1 pB pW pS pA pQ pC pR pT pD cJ cI cZ cB kb65 kw65 ks65 ka65 kq65 kc65 kr65 kt65 kd65 many65 tsz65 thr65)) [0, 1, 2, 3, 4, 5, 6, 7, 8, 9] (by decide) rfl) hE) rfl rfl hl.1 rfl (lv_room (Nat.le_of_ble_eq_true rfl)) dc_M_choose_81 ⟨Nat.le_of_ble_eq_true rfl, Nat.le_of_ble_eq_true rfl⟩) hP hD hS hA [0, 1, 2, 3, 4, 5, 6, 7, 8, 9] [] rfl rfl (by decide) (by decide) (fun u H locs hw hP hD hS => ?_)
    obtain ⟨kb81, kw81, ks81, ka81, kq81, kc81, kr81, kt81, kd81, many81, tsz81, thr81⟩ := u
    have hP : va_P (dC, dI) cs_3 (wd_M h1 pB pW pS pA pQ pC pR pT pD cJ cI cZ cB kb81 kw81 ks81 ka81 kq81 kc81 kr81 kt81 kd81 many81 tsz81 thr81) H := hP.sub (ws' := (wd_M h1 pB pW pS pA pQ pC pR pT pD cJ cI cZ cB kb81 kw81 ks81 ka81 kq81 kc81 kr81 kt81 kd81 many81 tsz81 thr81)) [0, 1, 2, 3, 4, 5, 6, 7, 8, 9] rfl
    have hD : va_D A (wd_M h1 pB pW pS pA pQ pC pR pT pD cJ cI cZ cB kb81 kw81 ks81 ka81 kq81 kc81 kr81 kt81 kd81 many81 tsz81 thr81) := hD.sub (ws' := (wd_M h1 pB pW pS pA pQ pC pR pT pD cJ cI cZ cB kb81 kw81 ks81 ka81 kq81 kc81 kr81 kt81 kd81 many81 tsz81 thr81)) [0, 1, 2, 3, 4, 5, 6, 7, 8, 9] (by decide) rfl
    try dsimp only at hw
    refine lv_aload_n hx hb dc_M_choose_84 rfl (lv_at hl 1 rfl) ?_
    refine va_get (D := (dC, dI)) (ci := 2) (v := .ref pC) (C := "FourWordsModel") (T := tb_M) (N := 12) hx hb hts (hu _ um_M) hown hK hP 0 rfl rfl 5 (by decide) (hq mw_t465) (fun _ h9 => h9) rfl dc_M_choose_85 ?_
    refine lv_aload_n hx hb dc_M_choose_88 rfl (lv_at hl 1 rfl) ?_
    refine va_get (D := (dC, dI)) (ci := 2) (v := .ref pW) (C := "FourWordsModel") (T := tb_M) (N := 12) hx hb hts (hu _ um_M) hown hK hP 0 rfl rfl 1 (by decide) (hq mw_t461) (fun _ h9 => h9) rfl dc_M_choose_89 ?_
    refine lv_iload_n hx hb dc_M_choose_92 rfl (lv_at hl 3 rfl) ?_
    obtain ⟨hin, hw⟩ := hw
    refine va_iald hx hb hK hP 2 1 rfl rfl hin dc_M_choose_93 ?_
    refine gc_i (S := (Nat → Int32)) (w1 := (fun u => (wd_A pC cJ cI cZ cB u))) (wc := (wd_A pC cJ cI cZ cB kc81)) (wr := ([(h1, .inr (2, [.ref pB, .ref pW, .ref pS, .ref pA, .ref pQ, .ref pC, .ref pR, .ref pT, .int many81, .int tsz81, .int thr81, .ref pD])), (pB, .inl (cB, 4096, .inl kb81)), (pW, .inl (cI, 64, .inl kw81)), (pS, .inl (cZ, 64, .inl ks81)), (pA, .inl (cB, 64, .inl ka81)), (pQ, .inl (cB, 64, .inl kq81)), (pR, .inl (cB, 65, .inl kr81)), (pT, .inl (cB, 80, .inl kt81)), (pD, .inl (cB, 24, .inl kd81))] : va_W)) (va_runS (As := [.ref pC, .int (kw81 x2.toNatClampNeg)]) (rest := []) ⟨hx, hb, hml, hown, hts⟩ (kt_M_truth l dC dI cJ cI cZ cB pC _ (kw81 x2.toNatClampNeg) kc81 _ hw) ⟨callB_of 2 hts (gw_in mw_t581) rfl rfl rfl (hq mw_t3) (hq mw_t579) (by decide +kernel) ⟨Nat.le_of_ble_eq_true rfl, Nat.le_of_ble_eq_true rfl⟩, hq mw_t580⟩ (ps_W (hP.sub (ws' := (wd_A pC cJ cI cZ cB kc81)) [6] rfl) hK (hD.sub (ws' := (wd_A pC cJ cI cZ cB kc81)) [6] (by decide) rfl) hE) rfl rfl hl.1 rfl (lv_room (Nat.le_of_ble_eq_true rfl)) dc_M_choose_94 ⟨Nat.le_of_ble_eq_true rfl, Nat.le_of_ble_eq_true rfl⟩) hP hD hS hA [6] [0, 1, 2, 3, 4, 5, 7, 8, 9] rfl rfl (by decide) (by decide) (fun r94 u H locs hw hP hD hS => ?_)
    obtain ⟨kc94, rfl⟩ : ∃ z, z = u := ⟨_, rfl⟩
    have hP : va_P (dC, dI) cs_3 (wd_M h1 pB pW pS pA pQ pC pR pT pD cJ cI cZ cB kb81 kw81 ks81 ka81 kq81 kc94 kr81 kt81 kd81 many81 tsz81 thr81) H := hP.sub (ws' := (wd_M h1 pB pW pS pA pQ pC pR pT pD cJ cI cZ cB kb81 kw81 ks81 ka81 kq81 kc94 kr81 kt81 kd81 many81 tsz81 thr81)) [0, 1, 2, 3, 4, 5, 9, 6, 7, 8] rfl
    have hD : va_D A (wd_M h1 pB pW pS pA pQ pC pR pT pD cJ cI cZ cB kb81 kw81 ks81 ka81 kq81 kc94 kr81 kt81 kd81 many81 tsz81 thr81) := hD.sub (ws' := (wd_M h1 pB pW pS pA pQ pC pR pT pD cJ cI cZ cB kb81 kw81 ks81 ka81 kq81 kc94 kr81 kt81 kd81 many81 tsz81 thr81)) [0, 1, 2, 3, 4, 5, 9, 6, 7, 8] (by decide) rfl
    try dsimp only at hw
    refine lv_istore (lv' := [(4, .int r94), (3, .int t0), (0, .ref h1), (1, .int x1), (2, .int x2)]) hx hb dc_M_choose_97 hl (Nat.le_of_ble_eq_true rfl) rfl (fun ls hl => ?_)
    refine lv_iconst (v := 0) hx hb dc_M_choose_99 (by decide) ?_
    refine lv_istore (lv' := [(5, .int (0 : Int32)), (4, .int r94), (3, .int t0), (0, .ref h1), (1, .int x1), (2, .int x2)]) hx hb dc_M_choose_100 hl (Nat.le_of_ble_eq_true rfl) rfl (fun ls hl => ?_)
    obtain ⟨n102, hw⟩ := hw
    exact B_102 n102 _ _ _ x1 t0 r94 (0 : Int32) kb81 kw81 ks81 ka81 kq81 kc94 kr81 kt81 kd81 many81 tsz81 thr81 hw hP hD hS (lv_sub hl [3, 4, 2, 1, 0] rfl)
  have B_60 : ∀ (H : Heap) (locs : List Loc) (ls : Array Slot) (x1 : Int32) (x2 : Int32) (kb : (Nat → Int32)) (kw : (Nat → Int32)) (ks : (Nat → Int32)) (ka : (Nat → Int32)) (kq : (Nat → Int32)) (kc : (Nat → Int32)) (kr : (Nat → Int32)) (kt : (Nat → Int32)) (kd : (Nat → Int32)) (many : Int32) (tsz : Int32) (thr : Int32), wp_M_choose_60 post x1 x2 kb kw ks ka kq kc kr kt kd many tsz thr → va_P (dC, dI) cs_3 (wd_M h1 pB pW pS pA pQ pC pR pT pD cJ cI cZ cB kb kw ks ka kq kc kr kt kd many tsz thr) H → va_D A (wd_M h1 pB pW pS pA pQ pC pR pT pD cJ cI cZ cB kb kw ks ka kq kc kr kt kd many tsz thr) → va_S A s.heap H locs → lv_has ls 6 [(0, .ref h1), (1, .int x1), (2, .int x2)] → W p l e (headSpec ws_M_choose rm_M_choose).room s m ([.ref h1] : List Value).toArray below meth c H locs 0 0 (MQ below (qv_M dC dI cJ cI cZ cB h1 pB pW pS pA pQ pC pR pT pD post A) ([.ref h1] : List Value).toArray s 0 0 A) (F0 m 60 ls []) := by
    intro H locs ls x1 x2 kb kw ks ka kq kc kr kt kd many tsz thr hw hP hD hS hl
    unfold wp_M_choose_60 at hw
    refine lv_iconst (v := 0) hx hb dc_M_choose_60 (by decide) ?_
    exact B_61 _ _ _ x1 x2 (0 : Int32) kb kw ks ka kq kc kr kt kd many tsz thr hw hP hD hS (lv_sub hl [0, 1, 2] rfl)
  unfold wp_M_choose at hw
  refine lv_aload_n hx hb dc_M_choose_0 rfl (lv_at hl 0 rfl) ?_
  refine lv_iconst (v := 0) hx hb dc_M_choose_1 (by decide) ?_
  refine lv_iconst (v := 3) hx hb dc_M_choose_2 (by decide) ?_
  refine lv_iconst (v := 1) hx hb dc_M_choose_3 (by decide) ?_
  refine gc_i (S := (Nat → Int32) × (Nat → Int32) × (Nat → Int32) × (Nat → Int32) × (Nat → Int32) × (Nat → Int32) × (Nat → Int32) × (Nat → Int32) × (Nat → Int32) × Int32 × Int32 × Int32) (w1 := (fun u => (wd_M h1 pB pW pS pA pQ pC pR pT pD cJ cI cZ cB u.1 u.2.1 u.2.2.1 u.2.2.2.1 u.2.2.2.2.1 u.2.2.2.2.2.1 u.2.2.2.2.2.2.1 u.2.2.2.2.2.2.2.1 u.2.2.2.2.2.2.2.2.1 u.2.2.2.2.2.2.2.2.2.1 u.2.2.2.2.2.2.2.2.2.2.1 u.2.2.2.2.2.2.2.2.2.2.2))) (wc := (wd_M h1 pB pW pS pA pQ pC pR pT pD cJ cI cZ cB kb kw ks ka kq kc kr kt kd many tsz thr)) (wr := ([] : va_W)) (va_runV (As := [.int (0 : Int32), .int (3 : Int32), .int (1 : Int32)]) (rest := []) ⟨hx, hb, hml, hown, hts⟩ (kt_M_refuse l dC dI cJ cI cZ cB h1 pB pW pS pA pQ pC pR pT pD _ (0 : Int32) (3 : Int32) (1 : Int32) kb kw ks ka kq kc kr kt kd many tsz thr _ hw) ⟨callB_of 3 hts (gw_in mw_t508) rfl rfl rfl (hq mw_t3) (hq mw_t505) (by decide +kernel) ⟨Nat.le_of_ble_eq_true rfl, Nat.le_of_ble_eq_true rfl⟩, hq mw_t507, hq mw_s34⟩ (pv_W (va_recv (q0 := 0) (ci := 2) hK hP rfl rfl) (hP.sub (ws' := (wd_M h1 pB pW pS pA pQ pC pR pT pD cJ cI cZ cB kb kw ks ka kq kc kr kt kd many tsz thr)) [0, 1, 2, 3, 4, 5, 6, 7, 8, 9] rfl) hK (hD.sub (ws' := (wd_M h1 pB pW pS pA pQ pC pR pT pD cJ cI cZ cB kb kw ks ka kq kc kr kt kd many tsz thr)) [0, 1, 2, 3, 4, 5, 6, 7, 8, 9] (by decide) rfl) hE) rfl rfl hl.1 rfl (lv_room (Nat.le_of_ble_eq_true rfl)) dc_M_choose_4 ⟨Nat.le_of_ble_eq_true rfl, Nat.le_of_ble_eq_true rfl⟩) hP hD hS hA [0, 1, 2, 3, 4, 5, 6, 7, 8, 9] [] rfl rfl (by decide) (by decide) (fun r4 u H locs hw hP hD hS => ?_)
  obtain ⟨kb4, kw4, ks4, ka4, kq4, kc4, kr4, kt4, kd4, many4, tsz4, thr4⟩ := u
  have hP : va_P (dC, dI) cs_3 (wd_M h1 pB pW pS pA pQ pC pR pT pD cJ cI cZ cB kb4 kw4 ks4 ka4 kq4 kc4 kr4 kt4 kd4 many4 tsz4 thr4) H := hP.sub (ws' := (wd_M h1 pB pW pS pA pQ pC pR pT pD cJ cI cZ cB kb4 kw4 ks4 ka4 kq4 kc4 kr4 kt4 kd4 many4 tsz4 thr4)) [0, 1, 2, 3, 4, 5, 6, 7, 8, 9] rfl
  have hD : va_D A (wd_M h1 pB pW pS pA pQ pC pR pT pD cJ cI cZ cB kb4 kw4 ks4 ka4 kq4 kc4 kr4 kt4 kd4 many4 tsz4 thr4) := hD.sub (ws' := (wd_M h1 pB pW pS pA pQ pC pR pT pD cJ cI cZ cB kb4 kw4 ks4 ka4 kq4 kc4 kr4 kt4 kd4 many4 tsz4 thr4)) [0, 1, 2, 3, 4, 5, 6, 7, 8, 9] (by decide) rfl
  try dsimp only at hw
  obtain ⟨hw1, hw2⟩ := hw
  refine lv_if_eq (tgt := 16) hx hb dc_M_choose_7 (by decide) (fun hc => ?_) (fun hc => ?_)
  · have hw := hw1 hc
    clear hw1 hw2
    refine lv_aload_n hx hb dc_M_choose_16 rfl (lv_at hl 0 rfl) ?_
    refine gc_i (S := (Nat → Int32) × (Nat → Int32) × (Nat → Int32) × (Nat → Int32) × (Nat → Int32) × (Nat → Int32) × (Nat → Int32) × (Nat → Int32) × (Nat → Int32) × Int32 × Int32 × Int32) (w1 := (fun u => (wd_M h1 pB pW pS pA pQ pC pR pT pD cJ cI cZ cB u.1 u.2.1 u.2.2.1 u.2.2.2.1 u.2.2.2.2.1 u.2.2.2.2.2.1 u.2.2.2.2.2.2.1 u.2.2.2.2.2.2.2.1 u.2.2.2.2.2.2.2.2.1 u.2.2.2.2.2.2.2.2.2.1 u.2.2.2.2.2.2.2.2.2.2.1 u.2.2.2.2.2.2.2.2.2.2.2))) (wc := (wd_M h1 pB pW pS pA pQ pC pR pT pD cJ cI cZ cB kb4 kw4 ks4 ka4 kq4 kc4 kr4 kt4 kd4 many4 tsz4 thr4)) (wr := ([] : va_W)) (va_runV (As := []) (rest := []) ⟨hx, hb, hml, hown, hts⟩ (kt_M_wider l dC dI cJ cI cZ cB h1 pB pW pS pA pQ pC pR pT pD _ kb4 kw4 ks4 ka4 kq4 kc4 kr4 kt4 kd4 many4 tsz4 thr4 _ hw) ⟨callB_of 0 hts (gw_in mw_t521) rfl rfl rfl (hq mw_t3) (hq mw_t518) (by decide +kernel) ⟨Nat.le_of_ble_eq_true rfl, Nat.le_of_ble_eq_true rfl⟩, hq mw_t520, hq mw_s36⟩ (pv_W (va_recv (q0 := 0) (ci := 2) hK hP rfl rfl) (hP.sub (ws' := (wd_M h1 pB pW pS pA pQ pC pR pT pD cJ cI cZ cB kb4 kw4 ks4 ka4 kq4 kc4 kr4 kt4 kd4 many4 tsz4 thr4)) [0, 1, 2, 3, 4, 5, 6, 7, 8, 9] rfl) hK (hD.sub (ws' := (wd_M h1 pB pW pS pA pQ pC pR pT pD cJ cI cZ cB kb4 kw4 ks4 ka4 kq4 kc4 kr4 kt4 kd4 many4 tsz4 thr4)) [0, 1, 2, 3, 4, 5, 6, 7, 8, 9] (by decide) rfl) hE) rfl rfl hl.1 rfl (lv_room (Nat.le_of_ble_eq_true rfl)) dc_M_choose_17 ⟨Nat.le_of_ble_eq_true rfl, Nat.le_of_ble_eq_true rfl⟩) hP hD hS hA [0, 1, 2, 3, 4, 5, 6, 7, 8, 9] [] rfl rfl (by decide) (by decide) (fun r17 u H locs hw hP hD hS => ?_)
    obtain ⟨kb17, kw17, ks17, ka17, kq17, kc17, kr17, kt17, kd17, many17, tsz17, thr17⟩ := u
    have hP : va_P (dC, dI) cs_3 (wd_M h1 pB pW pS pA pQ pC pR pT pD cJ cI cZ cB kb17 kw17 ks17 ka17 kq17 kc17 kr17 kt17 kd17 many17 tsz17 thr17) H := hP.sub (ws' := (wd_M h1 pB pW pS pA pQ pC pR pT pD cJ cI cZ cB kb17 kw17 ks17 ka17 kq17 kc17 kr17 kt17 kd17 many17 tsz17 thr17)) [0, 1, 2, 3, 4, 5, 6, 7, 8, 9] rfl
    have hD : va_D A (wd_M h1 pB pW pS pA pQ pC pR pT pD cJ cI cZ cB kb17 kw17 ks17 ka17 kq17 kc17 kr17 kt17 kd17 many17 tsz17 thr17) := hD.sub (ws' := (wd_M h1 pB pW pS pA pQ pC pR pT pD cJ cI cZ cB kb17 kw17 ks17 ka17 kq17 kc17 kr17 kt17 kd17 many17 tsz17 thr17)) [0, 1, 2, 3, 4, 5, 6, 7, 8, 9] (by decide) rfl
    try dsimp only at hw
    refine lv_istore_n (lv' := [(1, .int r17), (0, .ref h1)]) hx hb dc_M_choose_20 rfl hl (Nat.le_of_ble_eq_true rfl) rfl (fun ls hl => ?_)
    refine lv_aload_n hx hb dc_M_choose_21 rfl (lv_at hl 1 rfl) ?_
    refine va_get (D := (dC, dI)) (ci := 2) (v := .int many17) (C := "FourWordsModel") (T := tb_M) (N := 12) hx hb hts (hu _ um_M) hown hK hP 0 rfl rfl 8 (by decide) (hq mw_t468) (fun _ h9 => h9) rfl dc_M_choose_22 ?_
    refine lv_iconst (v := 3) hx hb dc_M_choose_25 (by decide) ?_
    refine lv_isub hx hb dc_M_choose_26 ?_
    refine lv_topi (fun v27 e27 => ?_)
    have hw := hw v27 e27
    refine lv_istore_n (lv' := [(2, .int v27), (1, .int r17), (0, .ref h1)]) hx hb dc_M_choose_27 rfl hl (Nat.le_of_ble_eq_true rfl) rfl (fun ls hl => ?_)
    refine lv_aload_n hx hb dc_M_choose_28 rfl (lv_at hl 2 rfl) ?_
    refine va_get (D := (dC, dI)) (ci := 2) (v := .ref pS) (C := "FourWordsModel") (T := tb_M) (N := 12) hx hb hts (hu _ um_M) hown hK hP 0 rfl rfl 2 (by decide) (hq mw_t462) (fun _ h9 => h9) rfl dc_M_choose_29 ?_
    refine lv_aload_n hx hb dc_M_choose_32 rfl (lv_at hl 2 rfl) ?_
    refine va_get (D := (dC, dI)) (ci := 2) (v := .int many17) (C := "FourWordsModel") (T := tb_M) (N := 12) hx hb hts (hu _ um_M) hown hK hP 0 rfl rfl 8 (by decide) (hq mw_t468) (fun _ h9 => h9) rfl dc_M_choose_33 ?_
    refine lv_iconst (v := 1) hx hb dc_M_choose_36 (by decide) ?_
    refine lv_isub hx hb dc_M_choose_37 ?_
    obtain ⟨hin, hw⟩ := hw
    refine va_zald hx hb hK hP 3 2 rfl rfl hin dc_M_choose_38 ?_
    obtain ⟨hw1, hw2⟩ := hw
    refine lv_if_eq (tgt := 60) hx hb dc_M_choose_39 (by decide) (fun hc => ?_) (fun hc => ?_)
    · have hw := hw1 hc
      clear hw1 hw2
      exact B_60 _ _ _ r17 v27 kb17 kw17 ks17 ka17 kq17 kc17 kr17 kt17 kd17 many17 tsz17 thr17 hw hP hD hS (lv_sub hl [2, 1, 0] rfl)
    · have hw := hw2 hc
      clear hw1 hw2
      refine lv_aload_n hx hb dc_M_choose_42 rfl (lv_at hl 2 rfl) ?_
      refine va_get (D := (dC, dI)) (ci := 2) (v := .ref pS) (C := "FourWordsModel") (T := tb_M) (N := 12) hx hb hts (hu _ um_M) hown hK hP 0 rfl rfl 2 (by decide) (hq mw_t462) (fun _ h9 => h9) rfl dc_M_choose_43 ?_
      refine lv_aload_n hx hb dc_M_choose_46 rfl (lv_at hl 2 rfl) ?_
      refine va_get (D := (dC, dI)) (ci := 2) (v := .int many17) (C := "FourWordsModel") (T := tb_M) (N := 12) hx hb hts (hu _ um_M) hown hK hP 0 rfl rfl 8 (by decide) (hq mw_t468) (fun _ h9 => h9) rfl dc_M_choose_47 ?_
      refine lv_iconst (v := 2) hx hb dc_M_choose_50 (by decide) ?_
      refine lv_isub hx hb dc_M_choose_51 ?_
      obtain ⟨hin, hw⟩ := hw
      refine va_zald hx hb hK hP 3 2 rfl rfl hin dc_M_choose_52 ?_
      obtain ⟨hw1, hw2⟩ := hw
      refine lv_if_eq (tgt := 60) hx hb dc_M_choose_53 (by decide) (fun hc => ?_) (fun hc => ?_)
      · have hw := hw1 hc
        clear hw1 hw2
        exact B_60 _ _ _ r17 v27 kb17 kw17 ks17 ka17 kq17 kc17 kr17 kt17 kd17 many17 tsz17 thr17 hw hP hD hS (lv_sub hl [2, 1, 0] rfl)
      · have hw := hw2 hc
        clear hw1 hw2
        refine lv_iconst (v := 1) hx hb dc_M_choose_56 (by decide) ?_
        refine lv_goto (tgt := 61) hx hb dc_M_choose_57 (by decide) ?_
        exact B_61 _ _ _ r17 v27 (1 : Int32) kb17 kw17 ks17 ka17 kq17 kc17 kr17 kt17 kd17 many17 tsz17 thr17 hw hP hD hS (lv_sub hl [2, 1, 0] rfl)
  · have hw := hw2 hc
    clear hw1 hw2
    refine lv_aload_n hx hb dc_M_choose_10 rfl (lv_at hl 0 rfl) ?_
    refine lv_iconst (v := 1) hx hb dc_M_choose_11 (by decide) ?_
    refine va_put (D := (dC, dI)) (ci := 2) (v := .int (1 : Int32)) (ty := .int) (C := "FourWordsModel") (T := tb_M) (N := 12) hx hb hts (hu _ um_M) ft_M fk_M fn_M hown hK hP hD hS 0 rfl rfl 10 (by decide) (hq mw_t470) (fun _ h9 => h9) rfl (by decide +kernel) rfl rfl (Nat.le_of_ble_eq_true rfl) dc_M_choose_12 (fun H locs hP hD hS => ?_)
    have hP : va_P (dC, dI) cs_3 (wd_M h1 pB pW pS pA pQ pC pR pT pD cJ cI cZ cB kb4 kw4 ks4 ka4 kq4 kc4 kr4 kt4 kd4 many4 tsz4 (1 : Int32)) H := hP
    have hD : va_D A (wd_M h1 pB pW pS pA pQ pC pR pT pD cJ cI cZ cB kb4 kw4 ks4 ka4 kq4 kc4 kr4 kt4 kd4 many4 tsz4 (1 : Int32)) := hD
    exact W.vret hx hb hr (fun t ht hW => ⟨⟨(kb4, kw4, ks4, ka4, kq4, kc4, kr4, kt4, kd4, many4, tsz4, (1 : Int32)), rfl, hw, by rw [ht]; exact hP, va_K.moved hW.alike hK, hD⟩, hS.F ht⟩) hS.2.2 dc_M_choose_15
set_option maxHeartbeats 4000000 in
set_option maxRecDepth 100000 in
theorem kt_M_join (l : Launch) (dC : Nat → ClassId) (dI : Nat → Nat → Nat) (cJ cI cZ cB : ClassId) (h1 pB pW pS pA pQ pC pR pT pD : Nat) (sz : Nat) (kb : (Nat → Int32)) (kw : (Nat → Int32)) (ks : (Nat → Int32)) (ka : (Nat → Int32)) (kq : (Nat → Int32)) (kc : (Nat → Int32)) (kr : (Nat → Int32)) (kt : (Nat → Int32)) (kd : (Nat → Int32)) (many : Int32) (tsz : Int32) (thr : Int32) (post : (Nat → Int32) → (Nat → Int32) → (Nat → Int32) → (Nat → Int32) → (Nat → Int32) → (Nat → Int32) → (Nat → Int32) → (Nat → Int32) → (Nat → Int32) → Int32 → Int32 → Int32 → Prop) (hw : wp_M_join post kb kw ks ka kq kc kr kt kd many tsz thr) : Met l yn_M_join ws_M_join rm_M_join (va_Pc [.ref h1] (pc_W (dC, dI) (ty_4 cJ cI cZ cB) (wd_M h1 pB pW pS pA pQ pC pR pT pD cJ cI cZ cB kb kw ks ka kq kc kr kt kd many tsz thr) sz)) (qv_M dC dI cJ cI cZ cB h1 pB pW pS pA pQ pC pR pT pD post (va_A (wd_M h1 pB pW pS pA pQ pC pR pT pD cJ cI cZ cB kb kw ks ka kq kc kr kt kd many tsz thr) sz)) 0 0 (va_A (wd_M h1 pB pW pS pA pQ pC pR pT pD cJ cI cZ cB kb kw ks ka kq kc kr kt kd many tsz thr) sz) := by
  refine Met.ofW (cc := cd_M_join) (maxL := 5) (ret := none) (by decide) rfl ?_
  intro p e s m args below meth c s₁ B hml hv
  obtain ⟨rfl, hsz, hP, hK, hD0, hE⟩ := hv
  have hx := B.exec
  have hb := B.bytes
  have hr := B.returns
  have hts := atoms_spec (ws := ws_M_join) B.pre
  have hq : ∀ {w : Cond}, w ∈ wg_all → w.before ([.ref h1] : List Value).toArray s = true := fun h => hts _ (List.mem_cons_of_mem _ h)
  have hu : ∀ L : List Cond, (∀ w ∈ L, w ∈ wg_all) → ∀ w ∈ L, w ∈ ws_M_join := fun L h w hw => List.mem_cons_of_mem _ (h w hw)
  have hown : s.vm.findClass "FourWordsModel" = some m.cls := findClass_of_methodNamed B.named
  have hlocks := B.notSynchronized
  subst hsz
  have hD := hD0.self (sz := s.heap.size)
  generalize hAe : va_A (wd_M h1 pB pW pS pA pQ pC pR pT pD cJ cI cZ cB kb kw ks ka kq kc kr kt kd many tsz thr) s.heap.size = A at hD ⊢
  have hA : ∀ q : Nat, s.heap.size ≤ q → A q := fun q h => by rw [← hAe]; exact Or.inr h
  have hS : va_S A s.heap s.heap [] := va_S.rf
  have hl := lv_entry [.ref h1] (n := 5) (Nat.le_of_ble_eq_true rfl)
  rw [lg_entry_eq]
  generalize (lg_sl [.ref h1] ++ List.replicate (5 - (lg_sl [.ref h1]).length) Slot.unset).toArray = ls at hl ⊢
  have hl : lv_has ls 5 [(0, .ref h1)] := hl
  have B_111 : ∀ (K54 : Int32 → Int32 → Int32 → Int32 → (Nat → Int32) → (Nat → Int32) → (Nat → Int32) → (Nat → Int32) → (Nat → Int32) → (Nat → Int32) → (Nat → Int32) → (Nat → Int32) → (Nat → Int32) → Int32 → Int32 → Int32 → Prop) (hK54 : ∀ (H : Heap) (locs : List Loc) (ls : Array Slot) (x1 : Int32) (x2 : Int32) (x3 : Int32) (x4 : Int32) (kb : (Nat → Int32)) (kw : (Nat → Int32)) (ks : (Nat → Int32)) (ka : (Nat → Int32)) (kq : (Nat → Int32)) (kc : (Nat → Int32)) (kr : (Nat → Int32)) (kt : (Nat → Int32)) (kd : (Nat → Int32)) (many : Int32) (tsz : Int32) (thr : Int32), K54 x1 x2 x3 x4 kb kw ks ka kq kc kr kt kd many tsz thr → va_P (dC, dI) cs_3 (wd_M h1 pB pW pS pA pQ pC pR pT pD cJ cI cZ cB kb kw ks ka kq kc kr kt kd many tsz thr) H → va_D A (wd_M h1 pB pW pS pA pQ pC pR pT pD cJ cI cZ cB kb kw ks ka kq kc kr kt kd many tsz thr) → va_S A s.heap H locs → lv_has ls 5 [(0, .ref h1), (1, .int x1), (2, .int x2), (3, .int x3), (4, .int x4)] → W p l e (headSpec ws_M_join rm_M_join).room s m ([.ref h1] : List Value).toArray below meth c H locs 0 0 (MQ below (qv_M dC dI cJ cI cZ cB h1 pB pW pS pA pQ pC pR pT pD post A) ([.ref h1] : List Value).toArray s 0 0 A) (F0 m 54 ls [])) (H : Heap) (locs : List Loc) (ls : Array Slot) (x1 : Int32) (x2 : Int32) (x3 : Int32) (x4 : Int32) (t0 : Int32) (t1 : Int32) (kb : (Nat → Int32)) (kw : (Nat → Int32)) (ks : (Nat → Int32)) (ka : (Nat → Int32)) (kq : (Nat → Int32)) (kc : (Nat → Int32)) (kr : (Nat → Int32)) (kt : (Nat → Int32)) (kd : (Nat → Int32)) (many : Int32) (tsz : Int32) (thr : Int32), wp_M_join_111 K54 post x1 x2 x3 x4 t0 t1 kb kw ks ka kq kc kr kt kd many tsz thr → va_P (dC, dI) cs_3 (wd_M h1 pB pW pS pA pQ pC pR pT pD cJ cI cZ cB kb kw ks ka kq kc kr kt kd many tsz thr) H → va_D A (wd_M h1 pB pW pS pA pQ pC pR pT pD cJ cI cZ cB kb kw ks ka kq kc kr kt kd many tsz thr) → va_S A s.heap H locs → lv_has ls 5 [(0, .ref h1), (1, .int x1), (2, .int x2), (3, .int x3), (4, .int x4)] → W p l e (headSpec ws_M_join rm_M_join).room s m ([.ref h1] : List Value).toArray below meth c H locs 0 0 (MQ below (qv_M dC dI cJ cI cZ cB h1 pB pW pS pA pQ pC pR pT pD post A) ([.ref h1] : List Value).toArray s 0 0 A) (F0 m 111 ls [.int t0, .int t1, .ref pC]) := by
    intro K54 hK54 H locs ls x1 x2 x3 x4 t0 t1 kb kw ks ka kq kc kr kt kd many tsz thr hw hP hD hS hl
    unfold wp_M_join_111 at hw
    obtain ⟨hin, hw⟩ := hw
    refine va_bast hx hb hK hP hD hS 6 3 rfl rfl hin dc_M_join_111 (fun H locs hP hD hS => ?_)
    have hP : va_P (dC, dI) cs_3 (wd_M h1 pB pW pS pA pQ pC pR pT pD cJ cI cZ cB kb kw ks ka kq (upd kc t1.toNatClampNeg (vp_nar .byte t0)) kr kt kd many tsz thr) H := hP
    have hD : va_D A (wd_M h1 pB pW pS pA pQ pC pR pT pD cJ cI cZ cB kb kw ks ka kq (upd kc t1.toNatClampNeg (vp_nar .byte t0)) kr kt kd many tsz thr) := hD
    refine lv_iinc (lv' := [(4, .int (x4 + 1)), (0, .ref h1), (1, .int x1), (2, .int x2), (3, .int x3)]) hx hb dc_M_join_112 hl (k := 4) rfl (ic_p1 _) (Nat.le_of_ble_eq_true rfl) rfl (fun ls hl => ?_)
    refine lv_goto (tgt := 54) hx hb dc_M_join_115 (by decide) ?_
    exact hK54 _ _ _ x1 x2 x3 (x4 + 1) kb kw ks ka kq (upd kc t1.toNatClampNeg (vp_nar .byte t0)) kr kt kd many tsz thr hw hP hD hS (lv_sub hl [1, 2, 3, 4, 0] rfl)
  have B_54 : ∀ (n54 : Nat) (H : Heap) (locs : List Loc) (ls : Array Slot) (x1 : Int32) (x2 : Int32) (x3 : Int32) (x4 : Int32) (kb : (Nat → Int32)) (kw : (Nat → Int32)) (ks : (Nat → Int32)) (ka : (Nat → Int32)) (kq : (Nat → Int32)) (kc : (Nat → Int32)) (kr : (Nat → Int32)) (kt : (Nat → Int32)) (kd : (Nat → Int32)) (many : Int32) (tsz : Int32) (thr : Int32), wp_M_join_54 post n54 x1 x2 x3 x4 kb kw ks ka kq kc kr kt kd many tsz thr → va_P (dC, dI) cs_3 (wd_M h1 pB pW pS pA pQ pC pR pT pD cJ cI cZ cB kb kw ks ka kq kc kr kt kd many tsz thr) H → va_D A (wd_M h1 pB pW pS pA pQ pC pR pT pD cJ cI cZ cB kb kw ks ka kq kc kr kt kd many tsz thr) → va_S A s.heap H locs → lv_has ls 5 [(0, .ref h1), (1, .int x1), (2, .int x2), (3, .int x3), (4, .int x4)] → W p l e (headSpec ws_M_join rm_M_join).room s m ([.ref h1] : List Value).toArray below meth c H locs 0 0 (MQ below (qv_M dC dI cJ cI cZ cB h1 pB pW pS pA pQ pC pR pT pD post A) ([.ref h1] : List Value).toArray s 0 0 A) (F0 m 54 ls []) := by
    intro n54
    induction n54 with
    | zero => intro H locs ls x1 x2 x3 x4 kb kw ks ka kq kc kr kt kd many tsz thr hw; exact False.elim hw
    | succ n54 ih =>
      intro H locs ls x1 x2 x3 x4 kb kw ks ka kq kc kr kt kd many tsz thr hw hP hD hS hl
      unfold wp_M_join_54 at hw
      refine lv_iload hx hb dc_M_join_54 (lv_at hl 4 rfl) ?_
      refine lv_iload_n hx hb dc_M_join_56 rfl (lv_at hl 3 rfl) ?_
      obtain ⟨hw1, hw2⟩ := hw
      refine lv_icmp_ge (tgt := 118) hx hb dc_M_join_57 (by decide) (fun hc => ?_) (fun hc => ?_)
      · have hw := hw1 hc
        clear hw1 hw2
        refine lv_aload_n hx hb dc_M_join_118 rfl (lv_at hl 0 rfl) ?_
        refine lv_dup hx hb dc_M_join_119 rfl ?_
        refine va_get (D := (dC, dI)) (ci := 2) (v := .int many) (C := "FourWordsModel") (T := tb_M) (N := 12) hx hb hts (hu _ um_M) hown hK hP 0 rfl rfl 8 (by decide) (hq mw_t468) (fun _ h9 => h9) rfl dc_M_join_120 ?_
        refine lv_iconst (v := 2) hx hb dc_M_join_123 (by decide) ?_
        refine lv_isub hx hb dc_M_join_124 ?_
        refine va_put (D := (dC, dI)) (ci := 2) (v := .int (many - (2 : Int32))) (ty := .int) (C := "FourWordsModel") (T := tb_M) (N := 12) hx hb hts (hu _ um_M) ft_M fk_M fn_M hown hK hP hD hS 0 rfl rfl 8 (by decide) (hq mw_t468) (fun _ h9 => h9) rfl (by decide +kernel) rfl rfl (Nat.le_of_ble_eq_true rfl) dc_M_join_125 (fun H locs hP hD hS => ?_)
        have hP : va_P (dC, dI) cs_3 (wd_M h1 pB pW pS pA pQ pC pR pT pD cJ cI cZ cB kb kw ks ka kq kc kr kt kd (many - (2 : Int32)) tsz thr) H := hP
        have hD : va_D A (wd_M h1 pB pW pS pA pQ pC pR pT pD cJ cI cZ cB kb kw ks ka kq kc kr kt kd (many - (2 : Int32)) tsz thr) := hD
        refine lv_aload_n hx hb dc_M_join_128 rfl (lv_at hl 0 rfl) ?_
        refine lv_aload_n hx hb dc_M_join_129 rfl (lv_at hl 0 rfl) ?_
        refine va_get (D := (dC, dI)) (ci := 2) (v := .ref pC) (C := "FourWordsModel") (T := tb_M) (N := 12) hx hb hts (hu _ um_M) hown hK hP 0 rfl rfl 5 (by decide) (hq mw_t465) (fun _ h9 => h9) rfl dc_M_join_130 ?_
        refine lv_iload_n hx hb dc_M_join_133 rfl (lv_at hl 3 rfl) ?_
        refine lv_iconst (v := 0) hx hb dc_M_join_134 (by decide) ?_
        refine gc_v (S := (Nat → Int32) × (Nat → Int32) × (Nat → Int32) × (Nat → Int32) × (Nat → Int32) × (Nat → Int32) × (Nat → Int32) × (Nat → Int32) × (Nat → Int32) × Int32 × Int32 × Int32) (w1 := (fun u => (wd_M h1 pB pW pS pA pQ pC pR pT pD cJ cI cZ cB u.1 u.2.1 u.2.2.1 u.2.2.2.1 u.2.2.2.2.1 u.2.2.2.2.2.1 u.2.2.2.2.2.2.1 u.2.2.2.2.2.2.2.1 u.2.2.2.2.2.2.2.2.1 u.2.2.2.2.2.2.2.2.2.1 u.2.2.2.2.2.2.2.2.2.2.1 u.2.2.2.2.2.2.2.2.2.2.2))) (wc := (wd_M h1 pB pW pS pA pQ pC pR pT pD cJ cI cZ cB kb kw ks ka kq kc kr kt kd (many - (2 : Int32)) tsz thr)) (wr := ([] : va_W)) (va_runV (As := [.ref pC, .int x3, .int (0 : Int32)]) (rest := []) ⟨hx, hb, hml, hown, hts⟩ (kt_M_give_c l dC dI cJ cI cZ cB h1 pB pW pS pA pQ pC pR pT pD _ x3 (0 : Int32) kb kw ks ka kq kc kr kt kd (many - (2 : Int32)) tsz thr _ hw) ⟨callB_of 3 hts (gw_in mw_t513) rfl rfl rfl (hq mw_t3) (hq mw_t510) (by decide +kernel) ⟨Nat.le_of_ble_eq_true rfl, Nat.le_of_ble_eq_true rfl⟩, hq mw_t512, hq mw_s35⟩ (pv_W (va_recv (q0 := 0) (ci := 2) hK hP rfl rfl) (hP.sub (ws' := (wd_M h1 pB pW pS pA pQ pC pR pT pD cJ cI cZ cB kb kw ks ka kq kc kr kt kd (many - (2 : Int32)) tsz thr)) [0, 1, 2, 3, 4, 5, 6, 7, 8, 9] rfl) hK (hD.sub (ws' := (wd_M h1 pB pW pS pA pQ pC pR pT pD cJ cI cZ cB kb kw ks ka kq kc kr kt kd (many - (2 : Int32)) tsz thr)) [0, 1, 2, 3, 4, 5, 6, 7, 8, 9] (by decide) rfl) hE) rfl rfl hl.1 rfl (lv_room (Nat.le_of_ble_eq_true rfl)) dc_M_join_135 ⟨Nat.le_of_ble_eq_true rfl, Nat.le_of_ble_eq_true rfl⟩) hP hD hS hA [0, 1, 2, 3, 4, 5, 6, 7, 8, 9] [] rfl rfl (by decide) (by decide) (fun u H locs hw hP hD hS => ?_)
        obtain ⟨kb135, kw135, ks135, ka135, kq135, kc135, kr135, kt135, kd135, many135, tsz135, thr135⟩ := u
        have hP : va_P (dC, dI) cs_3 (wd_M h1 pB pW pS pA pQ pC pR pT pD cJ cI cZ cB kb135 kw135 ks135 ka135 kq135 kc135 kr135 kt135 kd135 many135 tsz135 thr135) H := hP.sub (ws' := (wd_M h1 pB pW pS pA pQ pC pR pT pD cJ cI cZ cB kb135 kw135 ks135 ka135 kq135 kc135 kr135 kt135 kd135 many135 tsz135 thr135)) [0, 1, 2, 3, 4, 5, 6, 7, 8, 9] rfl
        have hD : va_D A (wd_M h1 pB pW pS pA pQ pC pR pT pD cJ cI cZ cB kb135 kw135 ks135 ka135 kq135 kc135 kr135 kt135 kd135 many135 tsz135 thr135) := hD.sub (ws' := (wd_M h1 pB pW pS pA pQ pC pR pT pD cJ cI cZ cB kb135 kw135 ks135 ka135 kq135 kc135 kr135 kt135 kd135 many135 tsz135 thr135)) [0, 1, 2, 3, 4, 5, 6, 7, 8, 9] (by decide) rfl
        try dsimp only at hw
        exact W.vret hx hb hr (fun t ht hW => ⟨⟨(kb135, kw135, ks135, ka135, kq135, kc135, kr135, kt135, kd135, many135, tsz135, thr135), rfl, hw, by rw [ht]; exact hP, va_K.moved hW.alike hK, hD⟩, hS.F ht⟩) hS.2.2 dc_M_join_138
      · have hw := hw2 hc
        clear hw1 hw2
        refine lv_aload_n hx hb dc_M_join_60 rfl (lv_at hl 0 rfl) ?_
        refine va_get (D := (dC, dI)) (ci := 2) (v := .ref pC) (C := "FourWordsModel") (T := tb_M) (N := 12) hx hb hts (hu _ um_M) hown hK hP 0 rfl rfl 5 (by decide) (hq mw_t465) (fun _ h9 => h9) rfl dc_M_join_61 ?_
        refine lv_iload hx hb dc_M_join_64 (lv_at hl 4 rfl) ?_
        refine lv_iload hx hb dc_M_join_66 (lv_at hl 4 rfl) ?_
        refine lv_aload_n hx hb dc_M_join_68 rfl (lv_at hl 0 rfl) ?_
        refine va_get (D := (dC, dI)) (ci := 2) (v := .ref pW) (C := "FourWordsModel") (T := tb_M) (N := 12) hx hb hts (hu _ um_M) hown hK hP 0 rfl rfl 1 (by decide) (hq mw_t461) (fun _ h9 => h9) rfl dc_M_join_69 ?_
        refine lv_iload_n hx hb dc_M_join_72 rfl (lv_at hl 2 rfl) ?_
        obtain ⟨hin, hw⟩ := hw
        refine va_iald hx hb hK hP 2 1 rfl rfl hin dc_M_join_73 ?_
        obtain ⟨hw1, hw2⟩ := hw
        refine lv_icmp_ge (tgt := 92) hx hb dc_M_join_74 (by decide) (fun hc => ?_) (fun hc => ?_)
        · have hw := hw1 hc
          clear hw1 hw2
          refine lv_aload_n hx hb dc_M_join_92 rfl (lv_at hl 0 rfl) ?_
          refine va_get (D := (dC, dI)) (ci := 2) (v := .ref pB) (C := "FourWordsModel") (T := tb_M) (N := 12) hx hb hts (hu _ um_M) hown hK hP 0 rfl rfl 0 (by decide) (hq mw_t460) (fun _ h9 => h9) rfl dc_M_join_93 ?_
          refine lv_bipush (v := 64) hx hb dc_M_join_96 (by decide) ?_
          refine lv_iload_n hx hb dc_M_join_98 rfl (lv_at hl 1 rfl) ?_
          refine lv_imul hx hb dc_M_join_99 ?_
          refine lv_iload hx hb dc_M_join_100 (lv_at hl 4 rfl) ?_
          refine lv_iadd hx hb dc_M_join_102 ?_
          refine lv_aload_n hx hb dc_M_join_103 rfl (lv_at hl 0 rfl) ?_
          refine va_get (D := (dC, dI)) (ci := 2) (v := .ref pW) (C := "FourWordsModel") (T := tb_M) (N := 12) hx hb hts (hu _ um_M) hown hK hP 0 rfl rfl 1 (by decide) (hq mw_t461) (fun _ h9 => h9) rfl dc_M_join_104 ?_
          refine lv_iload_n hx hb dc_M_join_107 rfl (lv_at hl 2 rfl) ?_
          obtain ⟨hin, hw⟩ := hw
          refine va_iald hx hb hK hP 2 1 rfl rfl hin dc_M_join_108 ?_
          refine lv_isub hx hb dc_M_join_109 ?_
          obtain ⟨hin, hw⟩ := hw
          refine va_bald hx hb hK hP 1 3 rfl rfl hin dc_M_join_110 ?_
          exact B_111 (wp_M_join_54 post n54) ih _ _ _ x1 x2 x3 x4 (kb ((((64 : Int32) * x1) + x4) - (kw x2.toNatClampNeg)).toNatClampNeg) x4 kb kw ks ka kq kc kr kt kd many tsz thr hw hP hD hS (lv_sub hl [0, 1, 2, 3, 4] rfl)
        · have hw := hw2 hc
          clear hw1 hw2
          refine lv_aload_n hx hb dc_M_join_77 rfl (lv_at hl 0 rfl) ?_
          refine va_get (D := (dC, dI)) (ci := 2) (v := .ref pB) (C := "FourWordsModel") (T := tb_M) (N := 12) hx hb hts (hu _ um_M) hown hK hP 0 rfl rfl 0 (by decide) (hq mw_t460) (fun _ h9 => h9) rfl dc_M_join_78 ?_
          refine lv_bipush (v := 64) hx hb dc_M_join_81 (by decide) ?_
          refine lv_iload_n hx hb dc_M_join_83 rfl (lv_at hl 2 rfl) ?_
          refine lv_imul hx hb dc_M_join_84 ?_
          refine lv_iload hx hb dc_M_join_85 (lv_at hl 4 rfl) ?_
          refine lv_iadd hx hb dc_M_join_87 ?_
          obtain ⟨hin, hw⟩ := hw
          refine va_bald hx hb hK hP 1 3 rfl rfl hin dc_M_join_88 ?_
          refine lv_goto (tgt := 111) hx hb dc_M_join_89 (by decide) ?_
          exact B_111 (wp_M_join_54 post n54) ih _ _ _ x1 x2 x3 x4 (kb (((64 : Int32) * x2) + x4).toNatClampNeg) x4 kb kw ks ka kq kc kr kt kd many tsz thr hw hP hD hS (lv_sub hl [0, 1, 2, 3, 4] rfl)
  unfold wp_M_join at hw
  refine lv_aload_n hx hb dc_M_join_0 rfl (lv_at hl 0 rfl) ?_
  refine lv_iconst (v := 0) hx hb dc_M_join_1 (by decide) ?_
  refine lv_iconst (v := 2) hx hb dc_M_join_2 (by decide) ?_
  refine lv_iconst (v := 1) hx hb dc_M_join_3 (by decide) ?_
  refine gc_i (S := (Nat → Int32) × (Nat → Int32) × (Nat → Int32) × (Nat → Int32) × (Nat → Int32) × (Nat → Int32) × (Nat → Int32) × (Nat → Int32) × (Nat → Int32) × Int32 × Int32 × Int32) (w1 := (fun u => (wd_M h1 pB pW pS pA pQ pC pR pT pD cJ cI cZ cB u.1 u.2.1 u.2.2.1 u.2.2.2.1 u.2.2.2.2.1 u.2.2.2.2.2.1 u.2.2.2.2.2.2.1 u.2.2.2.2.2.2.2.1 u.2.2.2.2.2.2.2.2.1 u.2.2.2.2.2.2.2.2.2.1 u.2.2.2.2.2.2.2.2.2.2.1 u.2.2.2.2.2.2.2.2.2.2.2))) (wc := (wd_M h1 pB pW pS pA pQ pC pR pT pD cJ cI cZ cB kb kw ks ka kq kc kr kt kd many tsz thr)) (wr := ([] : va_W)) (va_runV (As := [.int (0 : Int32), .int (2 : Int32), .int (1 : Int32)]) (rest := []) ⟨hx, hb, hml, hown, hts⟩ (kt_M_refuse l dC dI cJ cI cZ cB h1 pB pW pS pA pQ pC pR pT pD _ (0 : Int32) (2 : Int32) (1 : Int32) kb kw ks ka kq kc kr kt kd many tsz thr _ hw) ⟨callB_of 3 hts (gw_in mw_t508) rfl rfl rfl (hq mw_t3) (hq mw_t505) (by decide +kernel) ⟨Nat.le_of_ble_eq_true rfl, Nat.le_of_ble_eq_true rfl⟩, hq mw_t507, hq mw_s34⟩ (pv_W (va_recv (q0 := 0) (ci := 2) hK hP rfl rfl) (hP.sub (ws' := (wd_M h1 pB pW pS pA pQ pC pR pT pD cJ cI cZ cB kb kw ks ka kq kc kr kt kd many tsz thr)) [0, 1, 2, 3, 4, 5, 6, 7, 8, 9] rfl) hK (hD.sub (ws' := (wd_M h1 pB pW pS pA pQ pC pR pT pD cJ cI cZ cB kb kw ks ka kq kc kr kt kd many tsz thr)) [0, 1, 2, 3, 4, 5, 6, 7, 8, 9] (by decide) rfl) hE) rfl rfl hl.1 rfl (lv_room (Nat.le_of_ble_eq_true rfl)) dc_M_join_4 ⟨Nat.le_of_ble_eq_true rfl, Nat.le_of_ble_eq_true rfl⟩) hP hD hS hA [0, 1, 2, 3, 4, 5, 6, 7, 8, 9] [] rfl rfl (by decide) (by decide) (fun r4 u H locs hw hP hD hS => ?_)
  obtain ⟨kb4, kw4, ks4, ka4, kq4, kc4, kr4, kt4, kd4, many4, tsz4, thr4⟩ := u
  have hP : va_P (dC, dI) cs_3 (wd_M h1 pB pW pS pA pQ pC pR pT pD cJ cI cZ cB kb4 kw4 ks4 ka4 kq4 kc4 kr4 kt4 kd4 many4 tsz4 thr4) H := hP.sub (ws' := (wd_M h1 pB pW pS pA pQ pC pR pT pD cJ cI cZ cB kb4 kw4 ks4 ka4 kq4 kc4 kr4 kt4 kd4 many4 tsz4 thr4)) [0, 1, 2, 3, 4, 5, 6, 7, 8, 9] rfl
  have hD : va_D A (wd_M h1 pB pW pS pA pQ pC pR pT pD cJ cI cZ cB kb4 kw4 ks4 ka4 kq4 kc4 kr4 kt4 kd4 many4 tsz4 thr4) := hD.sub (ws' := (wd_M h1 pB pW pS pA pQ pC pR pT pD cJ cI cZ cB kb4 kw4 ks4 ka4 kq4 kc4 kr4 kt4 kd4 many4 tsz4 thr4)) [0, 1, 2, 3, 4, 5, 6, 7, 8, 9] (by decide) rfl
  try dsimp only at hw
  obtain ⟨hw1, hw2⟩ := hw
  refine lv_if_eq (tgt := 11) hx hb dc_M_join_7 (by decide) (fun hc => ?_) (fun hc => ?_)
  · have hw := hw1 hc
    clear hw1 hw2
    refine lv_aload_n hx hb dc_M_join_11 rfl (lv_at hl 0 rfl) ?_
    refine va_get (D := (dC, dI)) (ci := 2) (v := .int many4) (C := "FourWordsModel") (T := tb_M) (N := 12) hx hb hts (hu _ um_M) hown hK hP 0 rfl rfl 8 (by decide) (hq mw_t468) (fun _ h9 => h9) rfl dc_M_join_12 ?_
    refine lv_iconst (v := 2) hx hb dc_M_join_15 (by decide) ?_
    refine lv_isub hx hb dc_M_join_16 ?_
    refine lv_topi (fun v17 e17 => ?_)
    have hw := hw v17 e17
    refine lv_istore_n (lv' := [(1, .int v17), (0, .ref h1)]) hx hb dc_M_join_17 rfl hl (Nat.le_of_ble_eq_true rfl) rfl (fun ls hl => ?_)
    refine lv_aload_n hx hb dc_M_join_18 rfl (lv_at hl 1 rfl) ?_
    refine va_get (D := (dC, dI)) (ci := 2) (v := .int many4) (C := "FourWordsModel") (T := tb_M) (N := 12) hx hb hts (hu _ um_M) hown hK hP 0 rfl rfl 8 (by decide) (hq mw_t468) (fun _ h9 => h9) rfl dc_M_join_19 ?_
    refine lv_iconst (v := 1) hx hb dc_M_join_22 (by decide) ?_
    refine lv_isub hx hb dc_M_join_23 ?_
    refine lv_topi (fun v24 e24 => ?_)
    have hw := hw v24 e24
    refine lv_istore_n (lv' := [(2, .int v24), (1, .int v17), (0, .ref h1)]) hx hb dc_M_join_24 rfl hl (Nat.le_of_ble_eq_true rfl) rfl (fun ls hl => ?_)
    refine lv_aload_n hx hb dc_M_join_25 rfl (lv_at hl 2 rfl) ?_
    refine va_get (D := (dC, dI)) (ci := 2) (v := .ref pW) (C := "FourWordsModel") (T := tb_M) (N := 12) hx hb hts (hu _ um_M) hown hK hP 0 rfl rfl 1 (by decide) (hq mw_t461) (fun _ h9 => h9) rfl dc_M_join_26 ?_
    refine lv_iload_n hx hb dc_M_join_29 rfl (lv_at hl 1 rfl) ?_
    obtain ⟨hin, hw⟩ := hw
    refine va_iald hx hb hK hP 2 1 rfl rfl hin dc_M_join_30 ?_
    refine lv_aload_n hx hb dc_M_join_31 rfl (lv_at hl 2 rfl) ?_
    refine va_get (D := (dC, dI)) (ci := 2) (v := .ref pW) (C := "FourWordsModel") (T := tb_M) (N := 12) hx hb hts (hu _ um_M) hown hK hP 0 rfl rfl 1 (by decide) (hq mw_t461) (fun _ h9 => h9) rfl dc_M_join_32 ?_
    refine lv_iload_n hx hb dc_M_join_35 rfl (lv_at hl 0 rfl) ?_
    obtain ⟨hin, hw⟩ := hw
    refine va_iald hx hb hK hP 2 1 rfl rfl hin dc_M_join_36 ?_
    refine lv_iadd hx hb dc_M_join_37 ?_
    refine lv_topi (fun v38 e38 => ?_)
    have hw := hw v38 e38
    refine lv_istore_n (lv' := [(3, .int v38), (2, .int v24), (1, .int v17), (0, .ref h1)]) hx hb dc_M_join_38 rfl hl (Nat.le_of_ble_eq_true rfl) rfl (fun ls hl => ?_)
    refine lv_iload_n hx hb dc_M_join_39 rfl (lv_at hl 0 rfl) ?_
    refine lv_bipush (v := 64) hx hb dc_M_join_40 (by decide) ?_
    obtain ⟨hw1, hw2⟩ := hw
    refine lv_icmp_le (tgt := 51) hx hb dc_M_join_42 (by decide) (fun hc => ?_) (fun hc => ?_)
    · have hw := hw1 hc
      clear hw1 hw2
      refine lv_iconst (v := 0) hx hb dc_M_join_51 (by decide) ?_
      refine lv_istore (lv' := [(4, .int (0 : Int32)), (3, .int v38), (2, .int v24), (1, .int v17), (0, .ref h1)]) hx hb dc_M_join_52 hl (Nat.le_of_ble_eq_true rfl) rfl (fun ls hl => ?_)
      obtain ⟨n54, hw⟩ := hw
      exact B_54 n54 _ _ _ v17 v24 v38 (0 : Int32) kb4 kw4 ks4 ka4 kq4 kc4 kr4 kt4 kd4 many4 tsz4 thr4 hw hP hD hS (lv_sub hl [4, 3, 2, 1, 0] rfl)
    · have hw := hw2 hc
      clear hw1 hw2
      refine lv_aload_n hx hb dc_M_join_45 rfl (lv_at hl 3 rfl) ?_
      refine lv_iconst (v := 1) hx hb dc_M_join_46 (by decide) ?_
      refine va_put (D := (dC, dI)) (ci := 2) (v := .int (1 : Int32)) (ty := .int) (C := "FourWordsModel") (T := tb_M) (N := 12) hx hb hts (hu _ um_M) ft_M fk_M fn_M hown hK hP hD hS 0 rfl rfl 10 (by decide) (hq mw_t470) (fun _ h9 => h9) rfl (by decide +kernel) rfl rfl (Nat.le_of_ble_eq_true rfl) dc_M_join_47 (fun H locs hP hD hS => ?_)
      have hP : va_P (dC, dI) cs_3 (wd_M h1 pB pW pS pA pQ pC pR pT pD cJ cI cZ cB kb4 kw4 ks4 ka4 kq4 kc4 kr4 kt4 kd4 many4 tsz4 (1 : Int32)) H := hP
      have hD : va_D A (wd_M h1 pB pW pS pA pQ pC pR pT pD cJ cI cZ cB kb4 kw4 ks4 ka4 kq4 kc4 kr4 kt4 kd4 many4 tsz4 (1 : Int32)) := hD
      exact W.vret hx hb hr (fun t ht hW => ⟨⟨(kb4, kw4, ks4, ka4, kq4, kc4, kr4, kt4, kd4, many4, tsz4, (1 : Int32)), rfl, hw, by rw [ht]; exact hP, va_K.moved hW.alike hK, hD⟩, hS.F ht⟩) hS.2.2 dc_M_join_50
  · have hw := hw2 hc
    clear hw1 hw2
    exact W.vret hx hb hr (fun t ht hW => ⟨⟨(kb4, kw4, ks4, ka4, kq4, kc4, kr4, kt4, kd4, many4, tsz4, thr4), rfl, hw, by rw [ht]; exact hP, va_K.moved hW.alike hK, hD⟩, hS.F ht⟩) hS.2.2 dc_M_join_10
set_option maxHeartbeats 4000000 in
set_option maxRecDepth 100000 in
theorem kt_M_copies (l : Launch) (dC : Nat → ClassId) (dI : Nat → Nat → Nat) (cJ cI cZ cB : ClassId) (h1 pB pW pS pA pQ pC pR pT pD : Nat) (sz : Nat) (a1 : Int32) (kb : (Nat → Int32)) (kw : (Nat → Int32)) (ks : (Nat → Int32)) (ka : (Nat → Int32)) (kq : (Nat → Int32)) (kc : (Nat → Int32)) (kr : (Nat → Int32)) (kt : (Nat → Int32)) (kd : (Nat → Int32)) (many : Int32) (tsz : Int32) (thr : Int32) (post : (Nat → Int32) → (Nat → Int32) → (Nat → Int32) → (Nat → Int32) → (Nat → Int32) → (Nat → Int32) → (Nat → Int32) → (Nat → Int32) → (Nat → Int32) → Int32 → Int32 → Int32 → Prop) (hw : wp_M_copies post a1 kb kw ks ka kq kc kr kt kd many tsz thr) : Met l yn_M_copies ws_M_copies rm_M_copies (va_Pc [.ref h1, .int a1] (pc_W (dC, dI) (ty_4 cJ cI cZ cB) (wd_M h1 pB pW pS pA pQ pC pR pT pD cJ cI cZ cB kb kw ks ka kq kc kr kt kd many tsz thr) sz)) (qv_M dC dI cJ cI cZ cB h1 pB pW pS pA pQ pC pR pT pD post (va_A (wd_M h1 pB pW pS pA pQ pC pR pT pD cJ cI cZ cB kb kw ks ka kq kc kr kt kd many tsz thr) sz)) 0 0 (va_A (wd_M h1 pB pW pS pA pQ pC pR pT pD cJ cI cZ cB kb kw ks ka kq kc kr kt kd many tsz thr) sz) := by
  refine Met.ofW (cc := cd_M_copies) (maxL := 5) (ret := none) (by decide) rfl ?_
  intro p e s m args below meth c s₁ B hml hv
  obtain ⟨rfl, hsz, hP, hK, hD0, hE⟩ := hv
  have hx := B.exec
  have hb := B.bytes
  have hr := B.returns
  have hts := atoms_spec (ws := ws_M_copies) B.pre
  have hq : ∀ {w : Cond}, w ∈ wg_all → w.before ([.ref h1, .int a1] : List Value).toArray s = true := fun h => hts _ (List.mem_cons_of_mem _ h)
  have hu : ∀ L : List Cond, (∀ w ∈ L, w ∈ wg_all) → ∀ w ∈ L, w ∈ ws_M_copies := fun L h w hw => List.mem_cons_of_mem _ (h w hw)
  have hown : s.vm.findClass "FourWordsModel" = some m.cls := findClass_of_methodNamed B.named
  have hlocks := B.notSynchronized
  subst hsz
  have hD := hD0.self (sz := s.heap.size)
  generalize hAe : va_A (wd_M h1 pB pW pS pA pQ pC pR pT pD cJ cI cZ cB kb kw ks ka kq kc kr kt kd many tsz thr) s.heap.size = A at hD ⊢
  have hA : ∀ q : Nat, s.heap.size ≤ q → A q := fun q h => by rw [← hAe]; exact Or.inr h
  have hS : va_S A s.heap s.heap [] := va_S.rf
  have hl := lv_entry [.ref h1, .int a1] (n := 5) (Nat.le_of_ble_eq_true rfl)
  rw [lg_entry_eq]
  generalize (lg_sl [.ref h1, .int a1] ++ List.replicate (5 - (lg_sl [.ref h1, .int a1]).length) Slot.unset).toArray = ls at hl ⊢
  have hl : lv_has ls 5 [(0, .ref h1), (1, .int a1)] := hl
  have B_55 : ∀ (n55 : Nat) (H : Heap) (locs : List Loc) (ls : Array Slot) (x1 : Int32) (x2 : Int32) (x3 : Int32) (x4 : Int32) (kb : (Nat → Int32)) (kw : (Nat → Int32)) (ks : (Nat → Int32)) (ka : (Nat → Int32)) (kq : (Nat → Int32)) (kc : (Nat → Int32)) (kr : (Nat → Int32)) (kt : (Nat → Int32)) (kd : (Nat → Int32)) (many : Int32) (tsz : Int32) (thr : Int32), wp_M_copies_55 post n55 x1 x2 x3 x4 kb kw ks ka kq kc kr kt kd many tsz thr → va_P (dC, dI) cs_3 (wd_M h1 pB pW pS pA pQ pC pR pT pD cJ cI cZ cB kb kw ks ka kq kc kr kt kd many tsz thr) H → va_D A (wd_M h1 pB pW pS pA pQ pC pR pT pD cJ cI cZ cB kb kw ks ka kq kc kr kt kd many tsz thr) → va_S A s.heap H locs → lv_has ls 5 [(0, .ref h1), (1, .int x1), (2, .int x2), (3, .int x3), (4, .int x4)] → W p l e (headSpec ws_M_copies rm_M_copies).room s m ([.ref h1, .int a1] : List Value).toArray below meth c H locs 0 0 (MQ below (qv_M dC dI cJ cI cZ cB h1 pB pW pS pA pQ pC pR pT pD post A) ([.ref h1, .int a1] : List Value).toArray s 0 0 A) (F0 m 55 ls []) := by
    intro n55
    induction n55 with
    | zero => intro H locs ls x1 x2 x3 x4 kb kw ks ka kq kc kr kt kd many tsz thr hw; exact False.elim hw
    | succ n55 ih =>
      intro H locs ls x1 x2 x3 x4 kb kw ks ka kq kc kr kt kd many tsz thr hw hP hD hS hl
      unfold wp_M_copies_55 at hw
      refine lv_iload hx hb dc_M_copies_55 (lv_at hl 4 rfl) ?_
      refine lv_iload_n hx hb dc_M_copies_57 rfl (lv_at hl 1 rfl) ?_
      refine lv_iload_n hx hb dc_M_copies_58 rfl (lv_at hl 3 rfl) ?_
      refine lv_imul hx hb dc_M_copies_59 ?_
      obtain ⟨hw1, hw2⟩ := hw
      refine lv_icmp_ge (tgt := 90) hx hb dc_M_copies_60 (by decide) (fun hc => ?_) (fun hc => ?_)
      · have hw := hw1 hc
        clear hw1 hw2
        refine lv_aload_n hx hb dc_M_copies_90 rfl (lv_at hl 0 rfl) ?_
        refine lv_dup hx hb dc_M_copies_91 rfl ?_
        refine va_get (D := (dC, dI)) (ci := 2) (v := .int many) (C := "FourWordsModel") (T := tb_M) (N := 12) hx hb hts (hu _ um_M) hown hK hP 0 rfl rfl 8 (by decide) (hq mw_t468) (fun _ h9 => h9) rfl dc_M_copies_92 ?_
        refine lv_iconst (v := 1) hx hb dc_M_copies_95 (by decide) ?_
        refine lv_isub hx hb dc_M_copies_96 ?_
        refine va_put (D := (dC, dI)) (ci := 2) (v := .int (many - (1 : Int32))) (ty := .int) (C := "FourWordsModel") (T := tb_M) (N := 12) hx hb hts (hu _ um_M) ft_M fk_M fn_M hown hK hP hD hS 0 rfl rfl 8 (by decide) (hq mw_t468) (fun _ h9 => h9) rfl (by decide +kernel) rfl rfl (Nat.le_of_ble_eq_true rfl) dc_M_copies_97 (fun H locs hP hD hS => ?_)
        have hP : va_P (dC, dI) cs_3 (wd_M h1 pB pW pS pA pQ pC pR pT pD cJ cI cZ cB kb kw ks ka kq kc kr kt kd (many - (1 : Int32)) tsz thr) H := hP
        have hD : va_D A (wd_M h1 pB pW pS pA pQ pC pR pT pD cJ cI cZ cB kb kw ks ka kq kc kr kt kd (many - (1 : Int32)) tsz thr) := hD
        refine lv_aload_n hx hb dc_M_copies_100 rfl (lv_at hl 0 rfl) ?_
        refine lv_aload_n hx hb dc_M_copies_101 rfl (lv_at hl 0 rfl) ?_
        refine va_get (D := (dC, dI)) (ci := 2) (v := .ref pC) (C := "FourWordsModel") (T := tb_M) (N := 12) hx hb hts (hu _ um_M) hown hK hP 0 rfl rfl 5 (by decide) (hq mw_t465) (fun _ h9 => h9) rfl dc_M_copies_102 ?_
        refine lv_iload_n hx hb dc_M_copies_105 rfl (lv_at hl 1 rfl) ?_
        refine lv_iload_n hx hb dc_M_copies_106 rfl (lv_at hl 3 rfl) ?_
        refine lv_imul hx hb dc_M_copies_107 ?_
        refine lv_iconst (v := 0) hx hb dc_M_copies_108 (by decide) ?_
        refine gc_v (S := (Nat → Int32) × (Nat → Int32) × (Nat → Int32) × (Nat → Int32) × (Nat → Int32) × (Nat → Int32) × (Nat → Int32) × (Nat → Int32) × (Nat → Int32) × Int32 × Int32 × Int32) (w1 := (fun u => (wd_M h1 pB pW pS pA pQ pC pR pT pD cJ cI cZ cB u.1 u.2.1 u.2.2.1 u.2.2.2.1 u.2.2.2.2.1 u.2.2.2.2.2.1 u.2.2.2.2.2.2.1 u.2.2.2.2.2.2.2.1 u.2.2.2.2.2.2.2.2.1 u.2.2.2.2.2.2.2.2.2.1 u.2.2.2.2.2.2.2.2.2.2.1 u.2.2.2.2.2.2.2.2.2.2.2))) (wc := (wd_M h1 pB pW pS pA pQ pC pR pT pD cJ cI cZ cB kb kw ks ka kq kc kr kt kd (many - (1 : Int32)) tsz thr)) (wr := ([] : va_W)) (va_runV (As := [.ref pC, .int (x1 * x3), .int (0 : Int32)]) (rest := []) ⟨hx, hb, hml, hown, hts⟩ (kt_M_give_c l dC dI cJ cI cZ cB h1 pB pW pS pA pQ pC pR pT pD _ (x1 * x3) (0 : Int32) kb kw ks ka kq kc kr kt kd (many - (1 : Int32)) tsz thr _ hw) ⟨callB_of 3 hts (gw_in mw_t513) rfl rfl rfl (hq mw_t3) (hq mw_t510) (by decide +kernel) ⟨Nat.le_of_ble_eq_true rfl, Nat.le_of_ble_eq_true rfl⟩, hq mw_t512, hq mw_s35⟩ (pv_W (va_recv (q0 := 0) (ci := 2) hK hP rfl rfl) (hP.sub (ws' := (wd_M h1 pB pW pS pA pQ pC pR pT pD cJ cI cZ cB kb kw ks ka kq kc kr kt kd (many - (1 : Int32)) tsz thr)) [0, 1, 2, 3, 4, 5, 6, 7, 8, 9] rfl) hK (hD.sub (ws' := (wd_M h1 pB pW pS pA pQ pC pR pT pD cJ cI cZ cB kb kw ks ka kq kc kr kt kd (many - (1 : Int32)) tsz thr)) [0, 1, 2, 3, 4, 5, 6, 7, 8, 9] (by decide) rfl) hE) rfl rfl hl.1 rfl (lv_room (Nat.le_of_ble_eq_true rfl)) dc_M_copies_109 ⟨Nat.le_of_ble_eq_true rfl, Nat.le_of_ble_eq_true rfl⟩) hP hD hS hA [0, 1, 2, 3, 4, 5, 6, 7, 8, 9] [] rfl rfl (by decide) (by decide) (fun u H locs hw hP hD hS => ?_)
        obtain ⟨kb109, kw109, ks109, ka109, kq109, kc109, kr109, kt109, kd109, many109, tsz109, thr109⟩ := u
        have hP : va_P (dC, dI) cs_3 (wd_M h1 pB pW pS pA pQ pC pR pT pD cJ cI cZ cB kb109 kw109 ks109 ka109 kq109 kc109 kr109 kt109 kd109 many109 tsz109 thr109) H := hP.sub (ws' := (wd_M h1 pB pW pS pA pQ pC pR pT pD cJ cI cZ cB kb109 kw109 ks109 ka109 kq109 kc109 kr109 kt109 kd109 many109 tsz109 thr109)) [0, 1, 2, 3, 4, 5, 6, 7, 8, 9] rfl
        have hD : va_D A (wd_M h1 pB pW pS pA pQ pC pR pT pD cJ cI cZ cB kb109 kw109 ks109 ka109 kq109 kc109 kr109 kt109 kd109 many109 tsz109 thr109) := hD.sub (ws' := (wd_M h1 pB pW pS pA pQ pC pR pT pD cJ cI cZ cB kb109 kw109 ks109 ka109 kq109 kc109 kr109 kt109 kd109 many109 tsz109 thr109)) [0, 1, 2, 3, 4, 5, 6, 7, 8, 9] (by decide) rfl
        try dsimp only at hw
        exact W.vret hx hb hr (fun t ht hW => ⟨⟨(kb109, kw109, ks109, ka109, kq109, kc109, kr109, kt109, kd109, many109, tsz109, thr109), rfl, hw, by rw [ht]; exact hP, va_K.moved hW.alike hK, hD⟩, hS.F ht⟩) hS.2.2 dc_M_copies_112
      · have hw := hw2 hc
        clear hw1 hw2
        refine lv_aload_n hx hb dc_M_copies_63 rfl (lv_at hl 0 rfl) ?_
        refine va_get (D := (dC, dI)) (ci := 2) (v := .ref pC) (C := "FourWordsModel") (T := tb_M) (N := 12) hx hb hts (hu _ um_M) hown hK hP 0 rfl rfl 5 (by decide) (hq mw_t465) (fun _ h9 => h9) rfl dc_M_copies_64 ?_
        refine lv_iload hx hb dc_M_copies_67 (lv_at hl 4 rfl) ?_
        refine lv_aload_n hx hb dc_M_copies_69 rfl (lv_at hl 0 rfl) ?_
        refine va_get (D := (dC, dI)) (ci := 2) (v := .ref pB) (C := "FourWordsModel") (T := tb_M) (N := 12) hx hb hts (hu _ um_M) hown hK hP 0 rfl rfl 0 (by decide) (hq mw_t460) (fun _ h9 => h9) rfl dc_M_copies_70 ?_
        refine lv_bipush (v := 64) hx hb dc_M_copies_73 (by decide) ?_
        refine lv_iload_n hx hb dc_M_copies_75 rfl (lv_at hl 2 rfl) ?_
        refine lv_imul hx hb dc_M_copies_76 ?_
        refine lv_iload hx hb dc_M_copies_77 (lv_at hl 4 rfl) ?_
        refine lv_iload_n hx hb dc_M_copies_79 rfl (lv_at hl 3 rfl) ?_
        obtain ⟨hne, hw⟩ := hw
        refine lv_irem hx hb dc_M_copies_80 hne ?_
        refine lv_iadd hx hb dc_M_copies_81 ?_
        obtain ⟨hin, hw⟩ := hw
        refine va_bald hx hb hK hP 1 3 rfl rfl hin dc_M_copies_82 ?_
        obtain ⟨hin, hw⟩ := hw
        refine va_bast hx hb hK hP hD hS 6 3 rfl rfl hin dc_M_copies_83 (fun H locs hP hD hS => ?_)
        have hP : va_P (dC, dI) cs_3 (wd_M h1 pB pW pS pA pQ pC pR pT pD cJ cI cZ cB kb kw ks ka kq (upd kc x4.toNatClampNeg (vp_nar .byte (kb (((64 : Int32) * x2) + (x4 - x4 / x3 * x3)).toNatClampNeg))) kr kt kd many tsz thr) H := hP
        have hD : va_D A (wd_M h1 pB pW pS pA pQ pC pR pT pD cJ cI cZ cB kb kw ks ka kq (upd kc x4.toNatClampNeg (vp_nar .byte (kb (((64 : Int32) * x2) + (x4 - x4 / x3 * x3)).toNatClampNeg))) kr kt kd many tsz thr) := hD
        refine lv_iinc (lv' := [(4, .int (x4 + 1)), (0, .ref h1), (1, .int x1), (2, .int x2), (3, .int x3)]) hx hb dc_M_copies_84 hl (k := 4) rfl (ic_p1 _) (Nat.le_of_ble_eq_true rfl) rfl (fun ls hl => ?_)
        refine lv_goto (tgt := 55) hx hb dc_M_copies_87 (by decide) ?_
        exact ih _ _ _ x1 x2 x3 (x4 + 1) kb kw ks ka kq (upd kc x4.toNatClampNeg (vp_nar .byte (kb (((64 : Int32) * x2) + (x4 - x4 / x3 * x3)).toNatClampNeg))) kr kt kd many tsz thr hw hP hD hS (lv_sub hl [1, 2, 3, 4, 0] rfl)
  have B_11 : ∀ (H : Heap) (locs : List Loc) (ls : Array Slot) (x1 : Int32) (t0 : Int32) (kb : (Nat → Int32)) (kw : (Nat → Int32)) (ks : (Nat → Int32)) (ka : (Nat → Int32)) (kq : (Nat → Int32)) (kc : (Nat → Int32)) (kr : (Nat → Int32)) (kt : (Nat → Int32)) (kd : (Nat → Int32)) (many : Int32) (tsz : Int32) (thr : Int32), wp_M_copies_11 post x1 t0 kb kw ks ka kq kc kr kt kd many tsz thr → va_P (dC, dI) cs_3 (wd_M h1 pB pW pS pA pQ pC pR pT pD cJ cI cZ cB kb kw ks ka kq kc kr kt kd many tsz thr) H → va_D A (wd_M h1 pB pW pS pA pQ pC pR pT pD cJ cI cZ cB kb kw ks ka kq kc kr kt kd many tsz thr) → va_S A s.heap H locs → lv_has ls 5 [(0, .ref h1), (1, .int x1)] → W p l e (headSpec ws_M_copies rm_M_copies).room s m ([.ref h1, .int a1] : List Value).toArray below meth c H locs 0 0 (MQ below (qv_M dC dI cJ cI cZ cB h1 pB pW pS pA pQ pC pR pT pD post A) ([.ref h1, .int a1] : List Value).toArray s 0 0 A) (F0 m 11 ls [.int t0, .ref h1]) := by
    intro H locs ls x1 t0 kb kw ks ka kq kc kr kt kd many tsz thr hw hP hD hS hl
    unfold wp_M_copies_11 at hw
    refine lv_iconst (v := 1) hx hb dc_M_copies_11 (by decide) ?_
    refine lv_iconst (v := 1) hx hb dc_M_copies_12 (by decide) ?_
    refine gc_i (S := (Nat → Int32) × (Nat → Int32) × (Nat → Int32) × (Nat → Int32) × (Nat → Int32) × (Nat → Int32) × (Nat → Int32) × (Nat → Int32) × (Nat → Int32) × Int32 × Int32 × Int32) (w1 := (fun u => (wd_M h1 pB pW pS pA pQ pC pR pT pD cJ cI cZ cB u.1 u.2.1 u.2.2.1 u.2.2.2.1 u.2.2.2.2.1 u.2.2.2.2.2.1 u.2.2.2.2.2.2.1 u.2.2.2.2.2.2.2.1 u.2.2.2.2.2.2.2.2.1 u.2.2.2.2.2.2.2.2.2.1 u.2.2.2.2.2.2.2.2.2.2.1 u.2.2.2.2.2.2.2.2.2.2.2))) (wc := (wd_M h1 pB pW pS pA pQ pC pR pT pD cJ cI cZ cB kb kw ks ka kq kc kr kt kd many tsz thr)) (wr := ([] : va_W)) (va_runV (As := [.int t0, .int (1 : Int32), .int (1 : Int32)]) (rest := []) ⟨hx, hb, hml, hown, hts⟩ (kt_M_refuse l dC dI cJ cI cZ cB h1 pB pW pS pA pQ pC pR pT pD _ t0 (1 : Int32) (1 : Int32) kb kw ks ka kq kc kr kt kd many tsz thr _ hw) ⟨callB_of 3 hts (gw_in mw_t508) rfl rfl rfl (hq mw_t3) (hq mw_t505) (by decide +kernel) ⟨Nat.le_of_ble_eq_true rfl, Nat.le_of_ble_eq_true rfl⟩, hq mw_t507, hq mw_s34⟩ (pv_W (va_recv (q0 := 0) (ci := 2) hK hP rfl rfl) (hP.sub (ws' := (wd_M h1 pB pW pS pA pQ pC pR pT pD cJ cI cZ cB kb kw ks ka kq kc kr kt kd many tsz thr)) [0, 1, 2, 3, 4, 5, 6, 7, 8, 9] rfl) hK (hD.sub (ws' := (wd_M h1 pB pW pS pA pQ pC pR pT pD cJ cI cZ cB kb kw ks ka kq kc kr kt kd many tsz thr)) [0, 1, 2, 3, 4, 5, 6, 7, 8, 9] (by decide) rfl) hE) rfl rfl hl.1 rfl (lv_room (Nat.le_of_ble_eq_true rfl)) dc_M_copies_13 ⟨Nat.le_of_ble_eq_true rfl, Nat.le_of_ble_eq_true rfl⟩) hP hD hS hA [0, 1, 2, 3, 4, 5, 6, 7, 8, 9] [] rfl rfl (by decide) (by decide) (fun r13 u H locs hw hP hD hS => ?_)
    obtain ⟨kb13, kw13, ks13, ka13, kq13, kc13, kr13, kt13, kd13, many13, tsz13, thr13⟩ := u
    have hP : va_P (dC, dI) cs_3 (wd_M h1 pB pW pS pA pQ pC pR pT pD cJ cI cZ cB kb13 kw13 ks13 ka13 kq13 kc13 kr13 kt13 kd13 many13 tsz13 thr13) H := hP.sub (ws' := (wd_M h1 pB pW pS pA pQ pC pR pT pD cJ cI cZ cB kb13 kw13 ks13 ka13 kq13 kc13 kr13 kt13 kd13 many13 tsz13 thr13)) [0, 1, 2, 3, 4, 5, 6, 7, 8, 9] rfl
    have hD : va_D A (wd_M h1 pB pW pS pA pQ pC pR pT pD cJ cI cZ cB kb13 kw13 ks13 ka13 kq13 kc13 kr13 kt13 kd13 many13 tsz13 thr13) := hD.sub (ws' := (wd_M h1 pB pW pS pA pQ pC pR pT pD cJ cI cZ cB kb13 kw13 ks13 ka13 kq13 kc13 kr13 kt13 kd13 many13 tsz13 thr13)) [0, 1, 2, 3, 4, 5, 6, 7, 8, 9] (by decide) rfl
    try dsimp only at hw
    obtain ⟨hw1, hw2⟩ := hw
    refine lv_if_eq (tgt := 20) hx hb dc_M_copies_16 (by decide) (fun hc => ?_) (fun hc => ?_)
    · have hw := hw1 hc
      clear hw1 hw2
      refine lv_aload_n hx hb dc_M_copies_20 rfl (lv_at hl 0 rfl) ?_
      refine va_get (D := (dC, dI)) (ci := 2) (v := .int many13) (C := "FourWordsModel") (T := tb_M) (N := 12) hx hb hts (hu _ um_M) hown hK hP 0 rfl rfl 8 (by decide) (hq mw_t468) (fun _ h9 => h9) rfl dc_M_copies_21 ?_
      refine lv_iconst (v := 1) hx hb dc_M_copies_24 (by decide) ?_
      refine lv_isub hx hb dc_M_copies_25 ?_
      refine lv_topi (fun v26 e26 => ?_)
      have hw := hw v26 e26
      refine lv_istore_n (lv' := [(2, .int v26), (0, .ref h1), (1, .int x1)]) hx hb dc_M_copies_26 rfl hl (Nat.le_of_ble_eq_true rfl) rfl (fun ls hl => ?_)
      refine lv_aload_n hx hb dc_M_copies_27 rfl (lv_at hl 1 rfl) ?_
      refine va_get (D := (dC, dI)) (ci := 2) (v := .ref pW) (C := "FourWordsModel") (T := tb_M) (N := 12) hx hb hts (hu _ um_M) hown hK hP 0 rfl rfl 1 (by decide) (hq mw_t461) (fun _ h9 => h9) rfl dc_M_copies_28 ?_
      refine lv_iload_n hx hb dc_M_copies_31 rfl (lv_at hl 0 rfl) ?_
      obtain ⟨hin, hw⟩ := hw
      refine va_iald hx hb hK hP 2 1 rfl rfl hin dc_M_copies_32 ?_
      refine lv_topi (fun v33 e33 => ?_)
      have hw := hw v33 e33
      refine lv_istore_n (lv' := [(3, .int v33), (2, .int v26), (0, .ref h1), (1, .int x1)]) hx hb dc_M_copies_33 rfl hl (Nat.le_of_ble_eq_true rfl) rfl (fun ls hl => ?_)
      refine lv_iload_n hx hb dc_M_copies_34 rfl (lv_at hl 3 rfl) ?_
      refine lv_i2l hx hb dc_M_copies_35 rfl ?_
      refine lv_iload_n hx hb dc_M_copies_36 rfl (lv_at hl 0 rfl) ?_
      refine lv_i2l hx hb dc_M_copies_37 rfl ?_
      refine lv_lmul hx hb dc_M_copies_38 ?_
      refine lv_ldc2 (v := 64) hx hb hown (hq mw_t614) dc_M_copies_39 ?_
      refine W.lcmp hx hb dc_M_copies_42 ?_
      obtain ⟨hw1, hw2⟩ := hw
      refine lv_if_le (tgt := 52) hx hb dc_M_copies_43 (by decide) (fun hc => ?_) (fun hc => ?_)
      · have hw := hw1 hc
        clear hw1 hw2
        refine lv_iconst (v := 0) hx hb dc_M_copies_52 (by decide) ?_
        refine lv_istore (lv' := [(4, .int (0 : Int32)), (3, .int v33), (2, .int v26), (0, .ref h1), (1, .int x1)]) hx hb dc_M_copies_53 hl (Nat.le_of_ble_eq_true rfl) rfl (fun ls hl => ?_)
        obtain ⟨n55, hw⟩ := hw
        exact B_55 n55 _ _ _ x1 v26 v33 (0 : Int32) kb13 kw13 ks13 ka13 kq13 kc13 kr13 kt13 kd13 many13 tsz13 thr13 hw hP hD hS (lv_sub hl [3, 4, 2, 1, 0] rfl)
      · have hw := hw2 hc
        clear hw1 hw2
        refine lv_aload_n hx hb dc_M_copies_46 rfl (lv_at hl 2 rfl) ?_
        refine lv_iconst (v := 1) hx hb dc_M_copies_47 (by decide) ?_
        refine va_put (D := (dC, dI)) (ci := 2) (v := .int (1 : Int32)) (ty := .int) (C := "FourWordsModel") (T := tb_M) (N := 12) hx hb hts (hu _ um_M) ft_M fk_M fn_M hown hK hP hD hS 0 rfl rfl 10 (by decide) (hq mw_t470) (fun _ h9 => h9) rfl (by decide +kernel) rfl rfl (Nat.le_of_ble_eq_true rfl) dc_M_copies_48 (fun H locs hP hD hS => ?_)
        have hP : va_P (dC, dI) cs_3 (wd_M h1 pB pW pS pA pQ pC pR pT pD cJ cI cZ cB kb13 kw13 ks13 ka13 kq13 kc13 kr13 kt13 kd13 many13 tsz13 (1 : Int32)) H := hP
        have hD : va_D A (wd_M h1 pB pW pS pA pQ pC pR pT pD cJ cI cZ cB kb13 kw13 ks13 ka13 kq13 kc13 kr13 kt13 kd13 many13 tsz13 (1 : Int32)) := hD
        exact W.vret hx hb hr (fun t ht hW => ⟨⟨(kb13, kw13, ks13, ka13, kq13, kc13, kr13, kt13, kd13, many13, tsz13, (1 : Int32)), rfl, hw, by rw [ht]; exact hP, va_K.moved hW.alike hK, hD⟩, hS.F ht⟩) hS.2.2 dc_M_copies_51
    · have hw := hw2 hc
      clear hw1 hw2
      exact W.vret hx hb hr (fun t ht hW => ⟨⟨(kb13, kw13, ks13, ka13, kq13, kc13, kr13, kt13, kd13, many13, tsz13, thr13), rfl, hw, by rw [ht]; exact hP, va_K.moved hW.alike hK, hD⟩, hS.F ht⟩) hS.2.2 dc_M_copies_19
  unfold wp_M_copies at hw
  refine lv_aload_n hx hb dc_M_copies_0 rfl (lv_at hl 0 rfl) ?_
  refine lv_iload_n hx hb dc_M_copies_1 rfl (lv_at hl 1 rfl) ?_
  refine lv_iconst (v := 1) hx hb dc_M_copies_2 (by decide) ?_
  obtain ⟨hw1, hw2⟩ := hw
  refine lv_icmp_ge (tgt := 10) hx hb dc_M_copies_3 (by decide) (fun hc => ?_) (fun hc => ?_)
  · have hw := hw1 hc
    clear hw1 hw2
    refine lv_iconst (v := 0) hx hb dc_M_copies_10 (by decide) ?_
    exact B_11 _ _ _ a1 (0 : Int32) kb kw ks ka kq kc kr kt kd many tsz thr hw hP hD hS (lv_sub hl [0, 1] rfl)
  · have hw := hw2 hc
    clear hw1 hw2
    refine lv_iconst (v := 1) hx hb dc_M_copies_6 (by decide) ?_
    refine lv_goto (tgt := 11) hx hb dc_M_copies_7 (by decide) ?_
    exact B_11 _ _ _ a1 (1 : Int32) kb kw ks ka kq kc kr kt kd many tsz thr hw hP hD hS (lv_sub hl [0, 1] rfl)

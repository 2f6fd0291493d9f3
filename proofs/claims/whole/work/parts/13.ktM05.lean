set_option maxHeartbeats 4000000 in
set_option maxRecDepth 100000 in
theorem kt_M_groups (l : Launch) (dC : Nat → ClassId) (dI : Nat → Nat → Nat) (cJ cI cZ cB : ClassId) (h1 pB pW pS pA pQ pC pR pT pD : Nat) (sz : Nat) (a1 : Int32) (a2 : Int32) (a3 : Int32) (kb : (Nat → Int32)) (kw : (Nat → Int32)) (ks : (Nat → Int32)) (ka : (Nat → Int32)) (kq : (Nat → Int32)) (kc : (Nat → Int32)) (kr : (Nat → Int32)) (kt : (Nat → Int32)) (kd : (Nat → Int32)) (many : Int32) (tsz : Int32) (thr : Int32) (post : (Nat → Int32) → (Nat → Int32) → (Nat → Int32) → (Nat → Int32) → (Nat → Int32) → (Nat → Int32) → (Nat → Int32) → (Nat → Int32) → (Nat → Int32) → Int32 → Int32 → Int32 → Prop) (hw : wp_M_groups post a1 a2 a3 kb kw ks ka kq kc kr kt kd many tsz thr) : Met l yn_M_groups ws_M_groups rm_M_groups (va_Pc [.ref h1, .int a1, .int a2, .int a3] (pc_W (dC, dI) (ty_4 cJ cI cZ cB) (wd_M h1 pB pW pS pA pQ pC pR pT pD cJ cI cZ cB kb kw ks ka kq kc kr kt kd many tsz thr) sz)) (qv_M dC dI cJ cI cZ cB h1 pB pW pS pA pQ pC pR pT pD post (va_A (wd_M h1 pB pW pS pA pQ pC pR pT pD cJ cI cZ cB kb kw ks ka kq kc kr kt kd many tsz thr) sz)) 0 0 (va_A (wd_M h1 pB pW pS pA pQ pC pR pT pD cJ cI cZ cB kb kw ks ka kq kc kr kt kd many tsz thr) sz) := by
  refine Met.ofW (cc := cd_M_groups) (maxL := 10) (ret := none) (by decide) rfl ?_
  intro p e s m args below meth c s₁ B hml hv
  obtain ⟨rfl, hsz, hP, hK, hD0, hE⟩ := hv
  have hx := B.exec
  have hb := B.bytes
  have hr := B.returns
  have hts := atoms_spec (ws := ws_M_groups) B.pre
  have hq : ∀ {w : Cond}, w ∈ wg_all → w.before ([.ref h1, .int a1, .int a2, .int a3] : List Value).toArray s = true := fun h => hts _ (List.mem_cons_of_mem _ h)
  have hu : ∀ L : List Cond, (∀ w ∈ L, w ∈ wg_all) → ∀ w ∈ L, w ∈ ws_M_groups := fun L h w hw => List.mem_cons_of_mem _ (h w hw)
  have hown : s.vm.findClass "FourWordsModel" = some m.cls := findClass_of_methodNamed B.named
  have hlocks := B.notSynchronized
  subst hsz
  have hD := hD0.self (sz := s.heap.size)
  generalize hAe : va_A (wd_M h1 pB pW pS pA pQ pC pR pT pD cJ cI cZ cB kb kw ks ka kq kc kr kt kd many tsz thr) s.heap.size = A at hD ⊢
  have hA : ∀ q : Nat, s.heap.size ≤ q → A q := fun q h => by rw [← hAe]; exact Or.inr h
  have hS : va_S A s.heap s.heap [] := va_S.rf
  have hl := lv_entry [.ref h1, .int a1, .int a2, .int a3] (n := 10) (Nat.le_of_ble_eq_true rfl)
  rw [lg_entry_eq]
  generalize (lg_sl [.ref h1, .int a1, .int a2, .int a3] ++ List.replicate (10 - (lg_sl [.ref h1, .int a1, .int a2, .int a3]).length) Slot.unset).toArray = ls at hl ⊢
  have hl : lv_has ls 10 [(0, .ref h1), (1, .int a1), (2, .int a2), (3, .int a3)] := hl
  have B_145 : ∀ (K20 : Int32 → Int32 → Int32 → Int32 → (Nat → Int32) → (Nat → Int32) → (Nat → Int32) → (Nat → Int32) → (Nat → Int32) → (Nat → Int32) → (Nat → Int32) → (Nat → Int32) → (Nat → Int32) → Int32 → Int32 → Int32 → Prop) (hK20 : ∀ (H : Heap) (locs : List Loc) (ls : Array Slot) (x1 : Int32) (x2 : Int32) (x4 : Int32) (x5 : Int32) (kb : (Nat → Int32)) (kw : (Nat → Int32)) (ks : (Nat → Int32)) (ka : (Nat → Int32)) (kq : (Nat → Int32)) (kc : (Nat → Int32)) (kr : (Nat → Int32)) (kt : (Nat → Int32)) (kd : (Nat → Int32)) (many : Int32) (tsz : Int32) (thr : Int32), K20 x1 x2 x4 x5 kb kw ks ka kq kc kr kt kd many tsz thr → va_P (dC, dI) cs_3 (wd_M h1 pB pW pS pA pQ pC pR pT pD cJ cI cZ cB kb kw ks ka kq kc kr kt kd many tsz thr) H → va_D A (wd_M h1 pB pW pS pA pQ pC pR pT pD cJ cI cZ cB kb kw ks ka kq kc kr kt kd many tsz thr) → va_S A s.heap H locs → lv_has ls 10 [(0, .ref h1), (1, .int x1), (2, .int x2), (4, .int x4), (5, .int x5)] → W p l e (headSpec ws_M_groups rm_M_groups).room s m ([.ref h1, .int a1, .int a2, .int a3] : List Value).toArray below meth c H locs 0 0 (MQ below (qv_M dC dI cJ cI cZ cB h1 pB pW pS pA pQ pC pR pT pD post A) ([.ref h1, .int a1, .int a2, .int a3] : List Value).toArray s 0 0 A) (F0 m 20 ls [])) (H : Heap) (locs : List Loc) (ls : Array Slot) (x1 : Int32) (x2 : Int32) (x4 : Int32) (x5 : Int32) (kb : (Nat → Int32)) (kw : (Nat → Int32)) (ks : (Nat → Int32)) (ka : (Nat → Int32)) (kq : (Nat → Int32)) (kc : (Nat → Int32)) (kr : (Nat → Int32)) (kt : (Nat → Int32)) (kd : (Nat → Int32)) (many : Int32) (tsz : Int32) (thr : Int32), wp_M_groups_145 K20 post x1 x2 x4 x5 kb kw ks ka kq kc kr kt kd many tsz thr → va_P (dC, dI) cs_3 (wd_M h1 pB pW pS pA pQ pC pR pT pD cJ cI cZ cB kb kw ks ka kq kc kr kt kd many tsz thr) H → va_D A (wd_M h1 pB pW pS pA pQ pC pR pT pD cJ cI cZ cB kb kw ks ka kq kc kr kt kd many tsz thr) → va_S A s.heap H locs → lv_has ls 10 [(0, .ref h1), (1, .int x1), (2, .int x2), (4, .int x4), (5, .int x5)] → W p l e (headSpec ws_M_groups rm_M_groups).room s m ([.ref h1, .int a1, .int a2, .int a3] : List Value).toArray below meth c H locs 0 0 (MQ below (qv_M dC dI cJ cI cZ cB h1 pB pW pS pA pQ pC pR pT pD post A) ([.ref h1, .int a1, .int a2, .int a3] : List Value).toArray s 0 0 A) (F0 m 145 ls []) := by
    intro K20 hK20 H locs ls x1 x2 x4 x5 kb kw ks ka kq kc kr kt kd many tsz thr hw hP hD hS hl
    unfold wp_M_groups_145 at hw
    refine lv_iload hx hb dc_M_groups_145 (lv_at hl 4 rfl) ?_
    refine lv_iload_n hx hb dc_M_groups_147 rfl (lv_at hl 1 rfl) ?_
    refine lv_isub hx hb dc_M_groups_148 ?_
    refine lv_topi (fun v149 e149 => ?_)
    have hw := hw v149 e149
    refine lv_istore (lv' := [(5, .int v149), (0, .ref h1), (1, .int x1), (2, .int x2), (4, .int x4)]) hx hb dc_M_groups_149 hl (Nat.le_of_ble_eq_true rfl) rfl (fun ls hl => ?_)
    refine lv_goto (tgt := 20) hx hb dc_M_groups_151 (by decide) ?_
    exact hK20 _ _ _ x1 x2 x4 v149 kb kw ks ka kq kc kr kt kd many tsz thr hw hP hD hS (lv_sub hl [1, 2, 3, 4, 0] rfl)
  have B_134 : ∀ (K20 : Int32 → Int32 → Int32 → Int32 → (Nat → Int32) → (Nat → Int32) → (Nat → Int32) → (Nat → Int32) → (Nat → Int32) → (Nat → Int32) → (Nat → Int32) → (Nat → Int32) → (Nat → Int32) → Int32 → Int32 → Int32 → Prop) (hK20 : ∀ (H : Heap) (locs : List Loc) (ls : Array Slot) (x1 : Int32) (x2 : Int32) (x4 : Int32) (x5 : Int32) (kb : (Nat → Int32)) (kw : (Nat → Int32)) (ks : (Nat → Int32)) (ka : (Nat → Int32)) (kq : (Nat → Int32)) (kc : (Nat → Int32)) (kr : (Nat → Int32)) (kt : (Nat → Int32)) (kd : (Nat → Int32)) (many : Int32) (tsz : Int32) (thr : Int32), K20 x1 x2 x4 x5 kb kw ks ka kq kc kr kt kd many tsz thr → va_P (dC, dI) cs_3 (wd_M h1 pB pW pS pA pQ pC pR pT pD cJ cI cZ cB kb kw ks ka kq kc kr kt kd many tsz thr) H → va_D A (wd_M h1 pB pW pS pA pQ pC pR pT pD cJ cI cZ cB kb kw ks ka kq kc kr kt kd many tsz thr) → va_S A s.heap H locs → lv_has ls 10 [(0, .ref h1), (1, .int x1), (2, .int x2), (4, .int x4), (5, .int x5)] → W p l e (headSpec ws_M_groups rm_M_groups).room s m ([.ref h1, .int a1, .int a2, .int a3] : List Value).toArray below meth c H locs 0 0 (MQ below (qv_M dC dI cJ cI cZ cB h1 pB pW pS pA pQ pC pR pT pD post A) ([.ref h1, .int a1, .int a2, .int a3] : List Value).toArray s 0 0 A) (F0 m 20 ls [])) (H : Heap) (locs : List Loc) (ls : Array Slot) (x1 : Int32) (x2 : Int32) (x4 : Int32) (x5 : Int32) (x8 : Int32) (kb : (Nat → Int32)) (kw : (Nat → Int32)) (ks : (Nat → Int32)) (ka : (Nat → Int32)) (kq : (Nat → Int32)) (kc : (Nat → Int32)) (kr : (Nat → Int32)) (kt : (Nat → Int32)) (kd : (Nat → Int32)) (many : Int32) (tsz : Int32) (thr : Int32), wp_M_groups_134 K20 post x1 x2 x4 x5 x8 kb kw ks ka kq kc kr kt kd many tsz thr → va_P (dC, dI) cs_3 (wd_M h1 pB pW pS pA pQ pC pR pT pD cJ cI cZ cB kb kw ks ka kq kc kr kt kd many tsz thr) H → va_D A (wd_M h1 pB pW pS pA pQ pC pR pT pD cJ cI cZ cB kb kw ks ka kq kc kr kt kd many tsz thr) → va_S A s.heap H locs → lv_has ls 10 [(0, .ref h1), (1, .int x1), (2, .int x2), (4, .int x4), (5, .int x5), (8, .int x8)] → W p l e (headSpec ws_M_groups rm_M_groups).room s m ([.ref h1, .int a1, .int a2, .int a3] : List Value).toArray below meth c H locs 0 0 (MQ below (qv_M dC dI cJ cI cZ cB h1 pB pW pS pA pQ pC pR pT pD post A) ([.ref h1, .int a1, .int a2, .int a3] : List Value).toArray s 0 0 A) (F0 m 134 ls []) := by
    intro K20 hK20 H locs ls x1 x2 x4 x5 x8 kb kw ks ka kq kc kr kt kd many tsz thr hw hP hD hS hl
    unfold wp_M_groups_134 at hw
    refine lv_iload hx hb dc_M_groups_134 (lv_at hl 3 rfl) ?_
    obtain ⟨hw1, hw2⟩ := hw
    refine lv_if_eq (tgt := 145) hx hb dc_M_groups_136 (by decide) (fun hc => ?_) (fun hc => ?_)
    · have hw := hw1 hc
      clear hw1 hw2
      exact B_145 K20 hK20 _ _ _ x1 x2 x4 x5 kb kw ks ka kq kc kr kt kd many tsz thr hw hP hD hS (lv_sub hl [0, 1, 2, 3, 4] rfl)
    · have hw := hw2 hc
      clear hw1 hw2
      refine lv_aload_n hx hb dc_M_groups_139 rfl (lv_at hl 0 rfl) ?_
      refine lv_iload hx hb dc_M_groups_140 (lv_at hl 5 rfl) ?_
      refine gc_v (S := (Nat → Int32) × (Nat → Int32) × (Nat → Int32) × (Nat → Int32) × (Nat → Int32) × (Nat → Int32) × (Nat → Int32) × (Nat → Int32) × (Nat → Int32) × Int32 × Int32 × Int32) (w1 := (fun u => (wd_M h1 pB pW pS pA pQ pC pR pT pD cJ cI cZ cB u.1 u.2.1 u.2.2.1 u.2.2.2.1 u.2.2.2.2.1 u.2.2.2.2.2.1 u.2.2.2.2.2.2.1 u.2.2.2.2.2.2.2.1 u.2.2.2.2.2.2.2.2.1 u.2.2.2.2.2.2.2.2.2.1 u.2.2.2.2.2.2.2.2.2.2.1 u.2.2.2.2.2.2.2.2.2.2.2))) (wc := (wd_M h1 pB pW pS pA pQ pC pR pT pD cJ cI cZ cB kb kw ks ka kq kc kr kt kd many tsz thr)) (wr := ([] : va_W)) (va_runV (As := [.int x8]) (rest := []) ⟨hx, hb, hml, hown, hts⟩ (kt_M_put l dC dI cJ cI cZ cB h1 pB pW pS pA pQ pC pR pT pD _ x8 kb kw ks ka kq kc kr kt kd many tsz thr _ hw) ⟨callB_of 1 hts (gw_in mw_t650) rfl rfl rfl (hq mw_t3) (hq mw_t647) (by decide +kernel) ⟨Nat.le_of_ble_eq_true rfl, Nat.le_of_ble_eq_true rfl⟩, hq mw_t649, hq mw_s52⟩ (pv_W (va_recv (q0 := 0) (ci := 2) hK hP rfl rfl) (hP.sub (ws' := (wd_M h1 pB pW pS pA pQ pC pR pT pD cJ cI cZ cB kb kw ks ka kq kc kr kt kd many tsz thr)) [0, 1, 2, 3, 4, 5, 6, 7, 8, 9] rfl) hK (hD.sub (ws' := (wd_M h1 pB pW pS pA pQ pC pR pT pD cJ cI cZ cB kb kw ks ka kq kc kr kt kd many tsz thr)) [0, 1, 2, 3, 4, 5, 6, 7, 8, 9] (by decide) rfl) hE) rfl rfl hl.1 rfl (lv_room (Nat.le_of_ble_eq_true rfl)) dc_M_groups_142 ⟨Nat.le_of_ble_eq_true rfl, Nat.le_of_ble_eq_true rfl⟩) hP hD hS hA [0, 1, 2, 3, 4, 5, 6, 7, 8, 9] [] rfl rfl (by decide) (by decide) (fun u H locs hw hP hD hS => ?_)
      obtain ⟨kb142, kw142, ks142, ka142, kq142, kc142, kr142, kt142, kd142, many142, tsz142, thr142⟩ := u
      have hP : va_P (dC, dI) cs_3 (wd_M h1 pB pW pS pA pQ pC pR pT pD cJ cI cZ cB kb142 kw142 ks142 ka142 kq142 kc142 kr142 kt142 kd142 many142 tsz142 thr142) H := hP.sub (ws' := (wd_M h1 pB pW pS pA pQ pC pR pT pD cJ cI cZ cB kb142 kw142 ks142 ka142 kq142 kc142 kr142 kt142 kd142 many142 tsz142 thr142)) [0, 1, 2, 3, 4, 5, 6, 7, 8, 9] rfl
      have hD : va_D A (wd_M h1 pB pW pS pA pQ pC pR pT pD cJ cI cZ cB kb142 kw142 ks142 ka142 kq142 kc142 kr142 kt142 kd142 many142 tsz142 thr142) := hD.sub (ws' := (wd_M h1 pB pW pS pA pQ pC pR pT pD cJ cI cZ cB kb142 kw142 ks142 ka142 kq142 kc142 kr142 kt142 kd142 many142 tsz142 thr142)) [0, 1, 2, 3, 4, 5, 6, 7, 8, 9] (by decide) rfl
      try dsimp only at hw
      exact B_145 K20 hK20 _ _ _ x1 x2 x4 x5 kb142 kw142 ks142 ka142 kq142 kc142 kr142 kt142 kd142 many142 tsz142 thr142 hw hP hD hS (lv_sub hl [0, 1, 2, 3, 4] rfl)
  have B_131 : ∀ (K20 : Int32 → Int32 → Int32 → Int32 → (Nat → Int32) → (Nat → Int32) → (Nat → Int32) → (Nat → Int32) → (Nat → Int32) → (Nat → Int32) → (Nat → Int32) → (Nat → Int32) → (Nat → Int32) → Int32 → Int32 → Int32 → Prop) (hK20 : ∀ (H : Heap) (locs : List Loc) (ls : Array Slot) (x1 : Int32) (x2 : Int32) (x4 : Int32) (x5 : Int32) (kb : (Nat → Int32)) (kw : (Nat → Int32)) (ks : (Nat → Int32)) (ka : (Nat → Int32)) (kq : (Nat → Int32)) (kc : (Nat → Int32)) (kr : (Nat → Int32)) (kt : (Nat → Int32)) (kd : (Nat → Int32)) (many : Int32) (tsz : Int32) (thr : Int32), K20 x1 x2 x4 x5 kb kw ks ka kq kc kr kt kd many tsz thr → va_P (dC, dI) cs_3 (wd_M h1 pB pW pS pA pQ pC pR pT pD cJ cI cZ cB kb kw ks ka kq kc kr kt kd many tsz thr) H → va_D A (wd_M h1 pB pW pS pA pQ pC pR pT pD cJ cI cZ cB kb kw ks ka kq kc kr kt kd many tsz thr) → va_S A s.heap H locs → lv_has ls 10 [(0, .ref h1), (1, .int x1), (2, .int x2), (4, .int x4), (5, .int x5)] → W p l e (headSpec ws_M_groups rm_M_groups).room s m ([.ref h1, .int a1, .int a2, .int a3] : List Value).toArray below meth c H locs 0 0 (MQ below (qv_M dC dI cJ cI cZ cB h1 pB pW pS pA pQ pC pR pT pD post A) ([.ref h1, .int a1, .int a2, .int a3] : List Value).toArray s 0 0 A) (F0 m 20 ls [])) (H : Heap) (locs : List Loc) (ls : Array Slot) (x1 : Int32) (x2 : Int32) (x5 : Int32) (x8 : Int32) (kb : (Nat → Int32)) (kw : (Nat → Int32)) (ks : (Nat → Int32)) (ka : (Nat → Int32)) (kq : (Nat → Int32)) (kc : (Nat → Int32)) (kr : (Nat → Int32)) (kt : (Nat → Int32)) (kd : (Nat → Int32)) (many : Int32) (tsz : Int32) (thr : Int32), wp_M_groups_131 K20 post x1 x2 x5 x8 kb kw ks ka kq kc kr kt kd many tsz thr → va_P (dC, dI) cs_3 (wd_M h1 pB pW pS pA pQ pC pR pT pD cJ cI cZ cB kb kw ks ka kq kc kr kt kd many tsz thr) H → va_D A (wd_M h1 pB pW pS pA pQ pC pR pT pD cJ cI cZ cB kb kw ks ka kq kc kr kt kd many tsz thr) → va_S A s.heap H locs → lv_has ls 10 [(0, .ref h1), (1, .int x1), (2, .int x2), (5, .int x5), (8, .int x8)] → W p l e (headSpec ws_M_groups rm_M_groups).room s m ([.ref h1, .int a1, .int a2, .int a3] : List Value).toArray below meth c H locs 0 0 (MQ below (qv_M dC dI cJ cI cZ cB h1 pB pW pS pA pQ pC pR pT pD post A) ([.ref h1, .int a1, .int a2, .int a3] : List Value).toArray s 0 0 A) (F0 m 131 ls []) := by
    intro K20 hK20 H locs ls x1 x2 x5 x8 kb kw ks ka kq kc kr kt kd many tsz thr hw hP hD hS hl
    unfold wp_M_groups_131 at hw
    refine lv_iconst (v := 1) hx hb dc_M_groups_131 (by decide) ?_
    refine lv_istore (lv' := [(4, .int (1 : Int32)), (0, .ref h1), (1, .int x1), (2, .int x2), (5, .int x5), (8, .int x8)]) hx hb dc_M_groups_132 hl (Nat.le_of_ble_eq_true rfl) rfl (fun ls hl => ?_)
    exact B_134 K20 hK20 _ _ _ x1 x2 (1 : Int32) x5 x8 kb kw ks ka kq kc kr kt kd many tsz thr hw hP hD hS (lv_sub hl [1, 2, 3, 0, 4, 5] rfl)
  have B_119 : ∀ (K20 : Int32 → Int32 → Int32 → Int32 → (Nat → Int32) → (Nat → Int32) → (Nat → Int32) → (Nat → Int32) → (Nat → Int32) → (Nat → Int32) → (Nat → Int32) → (Nat → Int32) → (Nat → Int32) → Int32 → Int32 → Int32 → Prop) (hK20 : ∀ (H : Heap) (locs : List Loc) (ls : Array Slot) (x1 : Int32) (x2 : Int32) (x4 : Int32) (x5 : Int32) (kb : (Nat → Int32)) (kw : (Nat → Int32)) (ks : (Nat → Int32)) (ka : (Nat → Int32)) (kq : (Nat → Int32)) (kc : (Nat → Int32)) (kr : (Nat → Int32)) (kt : (Nat → Int32)) (kd : (Nat → Int32)) (many : Int32) (tsz : Int32) (thr : Int32), K20 x1 x2 x4 x5 kb kw ks ka kq kc kr kt kd many tsz thr → va_P (dC, dI) cs_3 (wd_M h1 pB pW pS pA pQ pC pR pT pD cJ cI cZ cB kb kw ks ka kq kc kr kt kd many tsz thr) H → va_D A (wd_M h1 pB pW pS pA pQ pC pR pT pD cJ cI cZ cB kb kw ks ka kq kc kr kt kd many tsz thr) → va_S A s.heap H locs → lv_has ls 10 [(0, .ref h1), (1, .int x1), (2, .int x2), (4, .int x4), (5, .int x5)] → W p l e (headSpec ws_M_groups rm_M_groups).room s m ([.ref h1, .int a1, .int a2, .int a3] : List Value).toArray below meth c H locs 0 0 (MQ below (qv_M dC dI cJ cI cZ cB h1 pB pW pS pA pQ pC pR pT pD post A) ([.ref h1, .int a1, .int a2, .int a3] : List Value).toArray s 0 0 A) (F0 m 20 ls [])) (H : Heap) (locs : List Loc) (ls : Array Slot) (x1 : Int32) (x2 : Int32) (x4 : Int32) (x5 : Int32) (x8 : Int32) (kb : (Nat → Int32)) (kw : (Nat → Int32)) (ks : (Nat → Int32)) (ka : (Nat → Int32)) (kq : (Nat → Int32)) (kc : (Nat → Int32)) (kr : (Nat → Int32)) (kt : (Nat → Int32)) (kd : (Nat → Int32)) (many : Int32) (tsz : Int32) (thr : Int32), wp_M_groups_119 K20 post x1 x2 x4 x5 x8 kb kw ks ka kq kc kr kt kd many tsz thr → va_P (dC, dI) cs_3 (wd_M h1 pB pW pS pA pQ pC pR pT pD cJ cI cZ cB kb kw ks ka kq kc kr kt kd many tsz thr) H → va_D A (wd_M h1 pB pW pS pA pQ pC pR pT pD cJ cI cZ cB kb kw ks ka kq kc kr kt kd many tsz thr) → va_S A s.heap H locs → lv_has ls 10 [(0, .ref h1), (1, .int x1), (2, .int x2), (4, .int x4), (5, .int x5), (8, .int x8)] → W p l e (headSpec ws_M_groups rm_M_groups).room s m ([.ref h1, .int a1, .int a2, .int a3] : List Value).toArray below meth c H locs 0 0 (MQ below (qv_M dC dI cJ cI cZ cB h1 pB pW pS pA pQ pC pR pT pD post A) ([.ref h1, .int a1, .int a2, .int a3] : List Value).toArray s 0 0 A) (F0 m 119 ls []) := by
    intro K20 hK20 H locs ls x1 x2 x4 x5 x8 kb kw ks ka kq kc kr kt kd many tsz thr hw hP hD hS hl
    unfold wp_M_groups_119 at hw
    refine lv_iload hx hb dc_M_groups_119 (lv_at hl 5 rfl) ?_
    refine lv_bipush (v := 48) hx hb dc_M_groups_121 (by decide) ?_
    obtain ⟨hw1, hw2⟩ := hw
    refine lv_icmp_ne (tgt := 131) hx hb dc_M_groups_123 (by decide) (fun hc => ?_) (fun hc => ?_)
    · have hw := hw1 hc
      clear hw1 hw2
      exact B_131 K20 hK20 _ _ _ x1 x2 x5 x8 kb kw ks ka kq kc kr kt kd many tsz thr hw hP hD hS (lv_sub hl [0, 1, 2, 4, 5] rfl)
    · have hw := hw2 (fun h9 => h9 hc)
      clear hw1 hw2
      refine lv_iload hx hb dc_M_groups_126 (lv_at hl 4 rfl) ?_
      obtain ⟨hw1, hw2⟩ := hw
      refine lv_if_ne (tgt := 134) hx hb dc_M_groups_128 (by decide) (fun hc => ?_) (fun hc => ?_)
      · have hw := hw1 hc
        clear hw1 hw2
        exact B_134 K20 hK20 _ _ _ x1 x2 x4 x5 x8 kb kw ks ka kq kc kr kt kd many tsz thr hw hP hD hS (lv_sub hl [0, 1, 2, 3, 4, 5] rfl)
      · have hw := hw2 (fun h9 => h9 hc)
        clear hw1 hw2
        exact B_131 K20 hK20 _ _ _ x1 x2 x5 x8 kb kw ks ka kq kc kr kt kd many tsz thr hw hP hD hS (lv_sub hl [0, 1, 2, 4, 5] rfl)
  have B_117 : ∀ (K20 : Int32 → Int32 → Int32 → Int32 → (Nat → Int32) → (Nat → Int32) → (Nat → Int32) → (Nat → Int32) → (Nat → Int32) → (Nat → Int32) → (Nat → Int32) → (Nat → Int32) → (Nat → Int32) → Int32 → Int32 → Int32 → Prop) (hK20 : ∀ (H : Heap) (locs : List Loc) (ls : Array Slot) (x1 : Int32) (x2 : Int32) (x4 : Int32) (x5 : Int32) (kb : (Nat → Int32)) (kw : (Nat → Int32)) (ks : (Nat → Int32)) (ka : (Nat → Int32)) (kq : (Nat → Int32)) (kc : (Nat → Int32)) (kr : (Nat → Int32)) (kt : (Nat → Int32)) (kd : (Nat → Int32)) (many : Int32) (tsz : Int32) (thr : Int32), K20 x1 x2 x4 x5 kb kw ks ka kq kc kr kt kd many tsz thr → va_P (dC, dI) cs_3 (wd_M h1 pB pW pS pA pQ pC pR pT pD cJ cI cZ cB kb kw ks ka kq kc kr kt kd many tsz thr) H → va_D A (wd_M h1 pB pW pS pA pQ pC pR pT pD cJ cI cZ cB kb kw ks ka kq kc kr kt kd many tsz thr) → va_S A s.heap H locs → lv_has ls 10 [(0, .ref h1), (1, .int x1), (2, .int x2), (4, .int x4), (5, .int x5)] → W p l e (headSpec ws_M_groups rm_M_groups).room s m ([.ref h1, .int a1, .int a2, .int a3] : List Value).toArray below meth c H locs 0 0 (MQ below (qv_M dC dI cJ cI cZ cB h1 pB pW pS pA pQ pC pR pT pD post A) ([.ref h1, .int a1, .int a2, .int a3] : List Value).toArray s 0 0 A) (F0 m 20 ls [])) (H : Heap) (locs : List Loc) (ls : Array Slot) (x1 : Int32) (x2 : Int32) (x4 : Int32) (x5 : Int32) (t0 : Int32) (kb : (Nat → Int32)) (kw : (Nat → Int32)) (ks : (Nat → Int32)) (ka : (Nat → Int32)) (kq : (Nat → Int32)) (kc : (Nat → Int32)) (kr : (Nat → Int32)) (kt : (Nat → Int32)) (kd : (Nat → Int32)) (many : Int32) (tsz : Int32) (thr : Int32), wp_M_groups_117 K20 post x1 x2 x4 x5 t0 kb kw ks ka kq kc kr kt kd many tsz thr → va_P (dC, dI) cs_3 (wd_M h1 pB pW pS pA pQ pC pR pT pD cJ cI cZ cB kb kw ks ka kq kc kr kt kd many tsz thr) H → va_D A (wd_M h1 pB pW pS pA pQ pC pR pT pD cJ cI cZ cB kb kw ks ka kq kc kr kt kd many tsz thr) → va_S A s.heap H locs → lv_has ls 10 [(0, .ref h1), (1, .int x1), (2, .int x2), (4, .int x4), (5, .int x5)] → W p l e (headSpec ws_M_groups rm_M_groups).room s m ([.ref h1, .int a1, .int a2, .int a3] : List Value).toArray below meth c H locs 0 0 (MQ below (qv_M dC dI cJ cI cZ cB h1 pB pW pS pA pQ pC pR pT pD post A) ([.ref h1, .int a1, .int a2, .int a3] : List Value).toArray s 0 0 A) (F0 m 117 ls [.int t0]) := by
    intro K20 hK20 H locs ls x1 x2 x4 x5 t0 kb kw ks ka kq kc kr kt kd many tsz thr hw hP hD hS hl
    unfold wp_M_groups_117 at hw
    refine lv_istore (lv' := [(8, .int t0), (0, .ref h1), (1, .int x1), (2, .int x2), (4, .int x4), (5, .int x5)]) hx hb dc_M_groups_117 hl (Nat.le_of_ble_eq_true rfl) rfl (fun ls hl => ?_)
    exact B_119 K20 hK20 _ _ _ x1 x2 x4 x5 t0 kb kw ks ka kq kc kr kt kd many tsz thr hw hP hD hS (lv_sub hl [1, 2, 3, 4, 5, 0] rfl)
  have B_62 : ∀ (K20 : Int32 → Int32 → Int32 → Int32 → (Nat → Int32) → (Nat → Int32) → (Nat → Int32) → (Nat → Int32) → (Nat → Int32) → (Nat → Int32) → (Nat → Int32) → (Nat → Int32) → (Nat → Int32) → Int32 → Int32 → Int32 → Prop) (hK20 : ∀ (H : Heap) (locs : List Loc) (ls : Array Slot) (x1 : Int32) (x2 : Int32) (x4 : Int32) (x5 : Int32) (kb : (Nat → Int32)) (kw : (Nat → Int32)) (ks : (Nat → Int32)) (ka : (Nat → Int32)) (kq : (Nat → Int32)) (kc : (Nat → Int32)) (kr : (Nat → Int32)) (kt : (Nat → Int32)) (kd : (Nat → Int32)) (many : Int32) (tsz : Int32) (thr : Int32), K20 x1 x2 x4 x5 kb kw ks ka kq kc kr kt kd many tsz thr → va_P (dC, dI) cs_3 (wd_M h1 pB pW pS pA pQ pC pR pT pD cJ cI cZ cB kb kw ks ka kq kc kr kt kd many tsz thr) H → va_D A (wd_M h1 pB pW pS pA pQ pC pR pT pD cJ cI cZ cB kb kw ks ka kq kc kr kt kd many tsz thr) → va_S A s.heap H locs → lv_has ls 10 [(0, .ref h1), (1, .int x1), (2, .int x2), (4, .int x4), (5, .int x5)] → W p l e (headSpec ws_M_groups rm_M_groups).room s m ([.ref h1, .int a1, .int a2, .int a3] : List Value).toArray below meth c H locs 0 0 (MQ below (qv_M dC dI cJ cI cZ cB h1 pB pW pS pA pQ pC pR pT pD post A) ([.ref h1, .int a1, .int a2, .int a3] : List Value).toArray s 0 0 A) (F0 m 20 ls [])) (n62 : Nat) (H : Heap) (locs : List Loc) (ls : Array Slot) (x1 : Int32) (x2 : Int32) (x4 : Int32) (x5 : Int32) (x7 : Int32) (x8 : Int32) (x9 : Int32) (kb : (Nat → Int32)) (kw : (Nat → Int32)) (ks : (Nat → Int32)) (ka : (Nat → Int32)) (kq : (Nat → Int32)) (kc : (Nat → Int32)) (kr : (Nat → Int32)) (kt : (Nat → Int32)) (kd : (Nat → Int32)) (many : Int32) (tsz : Int32) (thr : Int32), wp_M_groups_62 K20 post n62 x1 x2 x4 x5 x7 x8 x9 kb kw ks ka kq kc kr kt kd many tsz thr → va_P (dC, dI) cs_3 (wd_M h1 pB pW pS pA pQ pC pR pT pD cJ cI cZ cB kb kw ks ka kq kc kr kt kd many tsz thr) H → va_D A (wd_M h1 pB pW pS pA pQ pC pR pT pD cJ cI cZ cB kb kw ks ka kq kc kr kt kd many tsz thr) → va_S A s.heap H locs → lv_has ls 10 [(0, .ref h1), (1, .int x1), (2, .int x2), (4, .int x4), (5, .int x5), (7, .int x7), (8, .int x8), (9, .int x9)] → W p l e (headSpec ws_M_groups rm_M_groups).room s m ([.ref h1, .int a1, .int a2, .int a3] : List Value).toArray below meth c H locs 0 0 (MQ below (qv_M dC dI cJ cI cZ cB h1 pB pW pS pA pQ pC pR pT pD post A) ([.ref h1, .int a1, .int a2, .int a3] : List Value).toArray s 0 0 A) (F0 m 62 ls []) := by
    intro K20 hK20 n62
    induction n62 with
    | zero => intro H locs ls x1 x2 x4 x5 x7 x8 x9 kb kw ks ka kq kc kr kt kd many tsz thr hw; exact False.elim hw
    | succ n62 ih =>
      intro H locs ls x1 x2 x4 x5 x7 x8 x9 kb kw ks ka kq kc kr kt kd many tsz thr hw hP hD hS hl
      unfold wp_M_groups_62 at hw
      refine lv_iload hx hb dc_M_groups_62 (lv_at hl 7 rfl) ?_
      refine lv_iload hx hb dc_M_groups_64 (lv_at hl 4 rfl) ?_
      obtain ⟨hw1, hw2⟩ := hw
      refine lv_icmp_lt (tgt := 89) hx hb dc_M_groups_66 (by decide) (fun hc => ?_) (fun hc => ?_)
      · have hw := hw1 hc
        clear hw1 hw2
        refine lv_iload hx hb dc_M_groups_89 (lv_at hl 6 rfl) ?_
        obtain ⟨hw1, hw2⟩ := hw
        refine lv_if_ne (tgt := 119) hx hb dc_M_groups_91 (by decide) (fun hc => ?_) (fun hc => ?_)
        · have hw := hw1 hc
          clear hw1 hw2
          exact B_119 K20 hK20 _ _ _ x1 x2 x4 x5 x8 kb kw ks ka kq kc kr kt kd many tsz thr hw hP hD hS (lv_sub hl [0, 1, 2, 3, 4, 6] rfl)
        · have hw := hw2 (fun h9 => h9 hc)
          clear hw1 hw2
          refine lv_iload hx hb dc_M_groups_94 (lv_at hl 5 rfl) ?_
          refine lv_bipush (v := 10) hx hb dc_M_groups_96 (by decide) ?_
          obtain ⟨hw1, hw2⟩ := hw
          refine lv_icmp_ge (tgt := 109) hx hb dc_M_groups_98 (by decide) (fun hc => ?_) (fun hc => ?_)
          · have hw := hw1 hc
            clear hw1 hw2
            refine lv_bipush (v := 97) hx hb dc_M_groups_109 (by decide) ?_
            refine lv_iload hx hb dc_M_groups_111 (lv_at hl 5 rfl) ?_
            refine lv_iadd hx hb dc_M_groups_113 ?_
            refine lv_bipush (v := 10) hx hb dc_M_groups_114 (by decide) ?_
            refine lv_isub hx hb dc_M_groups_116 ?_
            exact B_117 K20 hK20 _ _ _ x1 x2 x4 x5 (((97 : Int32) + x7) - (10 : Int32)) kb kw ks ka kq kc kr kt kd many tsz thr hw hP hD hS (lv_sub hl [0, 1, 2, 3, 4] rfl)
          · have hw := hw2 hc
            clear hw1 hw2
            refine lv_bipush (v := 48) hx hb dc_M_groups_101 (by decide) ?_
            refine lv_iload hx hb dc_M_groups_103 (lv_at hl 5 rfl) ?_
            refine lv_iadd hx hb dc_M_groups_105 ?_
            refine lv_goto (tgt := 117) hx hb dc_M_groups_106 (by decide) ?_
            exact B_117 K20 hK20 _ _ _ x1 x2 x4 x5 ((48 : Int32) + x7) kb kw ks ka kq kc kr kt kd many tsz thr hw hP hD hS (lv_sub hl [0, 1, 2, 3, 4] rfl)
      · have hw := hw2 hc
        clear hw1 hw2
        refine lv_iconst (v := 2) hx hb dc_M_groups_69 (by decide) ?_
        refine lv_iload hx hb dc_M_groups_70 (lv_at hl 5 rfl) ?_
        refine lv_imul hx hb dc_M_groups_72 ?_
        refine lv_aload_n hx hb dc_M_groups_73 rfl (lv_at hl 0 rfl) ?_
        refine va_get (D := (dC, dI)) (ci := 2) (v := .ref pA) (C := "FourWordsModel") (T := tb_M) (N := 12) hx hb hts (hu _ um_M) hown hK hP 0 rfl rfl 3 (by decide) (hq mw_t463) (fun _ h9 => h9) rfl dc_M_groups_74 ?_
        refine lv_iload hx hb dc_M_groups_77 (lv_at hl 7 rfl) ?_
        obtain ⟨hin, hw⟩ := hw
        refine va_bald hx hb hK hP 4 3 rfl rfl hin dc_M_groups_79 ?_
        refine lv_iadd hx hb dc_M_groups_80 ?_
        refine lv_topi (fun v81 e81 => ?_)
        have hw := hw v81 e81
        refine lv_istore (lv' := [(7, .int v81), (0, .ref h1), (1, .int x1), (2, .int x2), (4, .int x4), (5, .int x5), (8, .int x8), (9, .int x9)]) hx hb dc_M_groups_81 hl (Nat.le_of_ble_eq_true rfl) rfl (fun ls hl => ?_)
        refine lv_iinc (lv' := [(9, .int (x9 + (-1))), (7, .int v81), (0, .ref h1), (1, .int x1), (2, .int x2), (4, .int x4), (5, .int x5), (8, .int x8)]) hx hb dc_M_groups_83 hl (k := 7) rfl (ic_m1 _) (Nat.le_of_ble_eq_true rfl) rfl (fun ls hl => ?_)
        refine lv_goto (tgt := 62) hx hb dc_M_groups_86 (by decide) ?_
        exact ih _ _ _ x1 x2 x4 x5 v81 x8 (x9 + (-1)) kb kw ks ka kq kc kr kt kd many tsz thr hw hP hD hS (lv_sub hl [2, 3, 4, 5, 6, 1, 7, 0] rfl)
  have B_41 : ∀ (K20 : Int32 → Int32 → Int32 → Int32 → (Nat → Int32) → (Nat → Int32) → (Nat → Int32) → (Nat → Int32) → (Nat → Int32) → (Nat → Int32) → (Nat → Int32) → (Nat → Int32) → (Nat → Int32) → Int32 → Int32 → Int32 → Prop) (hK20 : ∀ (H : Heap) (locs : List Loc) (ls : Array Slot) (x1 : Int32) (x2 : Int32) (x4 : Int32) (x5 : Int32) (kb : (Nat → Int32)) (kw : (Nat → Int32)) (ks : (Nat → Int32)) (ka : (Nat → Int32)) (kq : (Nat → Int32)) (kc : (Nat → Int32)) (kr : (Nat → Int32)) (kt : (Nat → Int32)) (kd : (Nat → Int32)) (many : Int32) (tsz : Int32) (thr : Int32), K20 x1 x2 x4 x5 kb kw ks ka kq kc kr kt kd many tsz thr → va_P (dC, dI) cs_3 (wd_M h1 pB pW pS pA pQ pC pR pT pD cJ cI cZ cB kb kw ks ka kq kc kr kt kd many tsz thr) H → va_D A (wd_M h1 pB pW pS pA pQ pC pR pT pD cJ cI cZ cB kb kw ks ka kq kc kr kt kd many tsz thr) → va_S A s.heap H locs → lv_has ls 10 [(0, .ref h1), (1, .int x1), (2, .int x2), (4, .int x4), (5, .int x5)] → W p l e (headSpec ws_M_groups rm_M_groups).room s m ([.ref h1, .int a1, .int a2, .int a3] : List Value).toArray below meth c H locs 0 0 (MQ below (qv_M dC dI cJ cI cZ cB h1 pB pW pS pA pQ pC pR pT pD post A) ([.ref h1, .int a1, .int a2, .int a3] : List Value).toArray s 0 0 A) (F0 m 20 ls [])) (H : Heap) (locs : List Loc) (ls : Array Slot) (x1 : Int32) (x2 : Int32) (x4 : Int32) (x5 : Int32) (t0 : Int32) (kb : (Nat → Int32)) (kw : (Nat → Int32)) (ks : (Nat → Int32)) (ka : (Nat → Int32)) (kq : (Nat → Int32)) (kc : (Nat → Int32)) (kr : (Nat → Int32)) (kt : (Nat → Int32)) (kd : (Nat → Int32)) (many : Int32) (tsz : Int32) (thr : Int32), wp_M_groups_41 K20 post x1 x2 x4 x5 t0 kb kw ks ka kq kc kr kt kd many tsz thr → va_P (dC, dI) cs_3 (wd_M h1 pB pW pS pA pQ pC pR pT pD cJ cI cZ cB kb kw ks ka kq kc kr kt kd many tsz thr) H → va_D A (wd_M h1 pB pW pS pA pQ pC pR pT pD cJ cI cZ cB kb kw ks ka kq kc kr kt kd many tsz thr) → va_S A s.heap H locs → lv_has ls 10 [(0, .ref h1), (1, .int x1), (2, .int x2), (4, .int x4), (5, .int x5)] → W p l e (headSpec ws_M_groups rm_M_groups).room s m ([.ref h1, .int a1, .int a2, .int a3] : List Value).toArray below meth c H locs 0 0 (MQ below (qv_M dC dI cJ cI cZ cB h1 pB pW pS pA pQ pC pR pT pD post A) ([.ref h1, .int a1, .int a2, .int a3] : List Value).toArray s 0 0 A) (F0 m 41 ls [.int t0]) := by
    intro K20 hK20 H locs ls x1 x2 x4 x5 t0 kb kw ks ka kq kc kr kt kd many tsz thr hw hP hD hS hl
    unfold wp_M_groups_41 at hw
    refine lv_istore (lv' := [(6, .int t0), (0, .ref h1), (1, .int x1), (2, .int x2), (4, .int x4), (5, .int x5)]) hx hb dc_M_groups_41 hl (Nat.le_of_ble_eq_true rfl) rfl (fun ls hl => ?_)
    refine lv_iconst (v := 0) hx hb dc_M_groups_43 (by decide) ?_
    refine lv_istore (lv' := [(7, .int (0 : Int32)), (6, .int t0), (0, .ref h1), (1, .int x1), (2, .int x2), (4, .int x4), (5, .int x5)]) hx hb dc_M_groups_44 hl (Nat.le_of_ble_eq_true rfl) rfl (fun ls hl => ?_)
    refine lv_aload_n hx hb dc_M_groups_46 rfl (lv_at hl 2 rfl) ?_
    refine lv_iload hx hb dc_M_groups_47 (lv_at hl 6 rfl) ?_
    refine lv_iload hx hb dc_M_groups_49 (lv_at hl 1 rfl) ?_
    refine gc_i (S := (Nat → Int32) × (Nat → Int32) × (Nat → Int32) × (Nat → Int32) × (Nat → Int32) × (Nat → Int32) × (Nat → Int32) × (Nat → Int32) × (Nat → Int32) × Int32 × Int32 × Int32) (w1 := (fun u => (wd_M h1 pB pW pS pA pQ pC pR pT pD cJ cI cZ cB u.1 u.2.1 u.2.2.1 u.2.2.2.1 u.2.2.2.2.1 u.2.2.2.2.2.1 u.2.2.2.2.2.2.1 u.2.2.2.2.2.2.2.1 u.2.2.2.2.2.2.2.2.1 u.2.2.2.2.2.2.2.2.2.1 u.2.2.2.2.2.2.2.2.2.2.1 u.2.2.2.2.2.2.2.2.2.2.2))) (wc := (wd_M h1 pB pW pS pA pQ pC pR pT pD cJ cI cZ cB kb kw ks ka kq kc kr kt kd many tsz thr)) (wr := ([] : va_W)) (va_runV (As := [.int x5, .int t0]) (rest := []) ⟨hx, hb, hml, hown, hts⟩ (kt_M_sort l dC dI cJ cI cZ cB h1 pB pW pS pA pQ pC pR pT pD _ x5 t0 kb kw ks ka kq kc kr kt kd many tsz thr _ hw) ⟨callB_of 2 hts (gw_in mw_t646) rfl rfl rfl (hq mw_t3) (hq mw_t643) (by decide +kernel) ⟨Nat.le_of_ble_eq_true rfl, Nat.le_of_ble_eq_true rfl⟩, hq mw_t645, hq mw_s51⟩ (pv_W (va_recv (q0 := 0) (ci := 2) hK hP rfl rfl) (hP.sub (ws' := (wd_M h1 pB pW pS pA pQ pC pR pT pD cJ cI cZ cB kb kw ks ka kq kc kr kt kd many tsz thr)) [0, 1, 2, 3, 4, 5, 6, 7, 8, 9] rfl) hK (hD.sub (ws' := (wd_M h1 pB pW pS pA pQ pC pR pT pD cJ cI cZ cB kb kw ks ka kq kc kr kt kd many tsz thr)) [0, 1, 2, 3, 4, 5, 6, 7, 8, 9] (by decide) rfl) hE) rfl rfl hl.1 rfl (lv_room (Nat.le_of_ble_eq_true rfl)) dc_M_groups_51 ⟨Nat.le_of_ble_eq_true rfl, Nat.le_of_ble_eq_true rfl⟩) hP hD hS hA [0, 1, 2, 3, 4, 5, 6, 7, 8, 9] [] rfl rfl (by decide) (by decide) (fun r51 u H locs hw hP hD hS => ?_)
    obtain ⟨kb51, kw51, ks51, ka51, kq51, kc51, kr51, kt51, kd51, many51, tsz51, thr51⟩ := u
    have hP : va_P (dC, dI) cs_3 (wd_M h1 pB pW pS pA pQ pC pR pT pD cJ cI cZ cB kb51 kw51 ks51 ka51 kq51 kc51 kr51 kt51 kd51 many51 tsz51 thr51) H := hP.sub (ws' := (wd_M h1 pB pW pS pA pQ pC pR pT pD cJ cI cZ cB kb51 kw51 ks51 ka51 kq51 kc51 kr51 kt51 kd51 many51 tsz51 thr51)) [0, 1, 2, 3, 4, 5, 6, 7, 8, 9] rfl
    have hD : va_D A (wd_M h1 pB pW pS pA pQ pC pR pT pD cJ cI cZ cB kb51 kw51 ks51 ka51 kq51 kc51 kr51 kt51 kd51 many51 tsz51 thr51) := hD.sub (ws' := (wd_M h1 pB pW pS pA pQ pC pR pT pD cJ cI cZ cB kb51 kw51 ks51 ka51 kq51 kc51 kr51 kt51 kd51 many51 tsz51 thr51)) [0, 1, 2, 3, 4, 5, 6, 7, 8, 9] (by decide) rfl
    try dsimp only at hw
    refine lv_istore (lv' := [(8, .int r51), (7, .int (0 : Int32)), (6, .int t0), (0, .ref h1), (1, .int x1), (2, .int x2), (4, .int x4), (5, .int x5)]) hx hb dc_M_groups_54 hl (Nat.le_of_ble_eq_true rfl) rfl (fun ls hl => ?_)
    refine lv_iload hx hb dc_M_groups_56 (lv_at hl 2 rfl) ?_
    refine lv_iconst (v := 1) hx hb dc_M_groups_58 (by decide) ?_
    refine lv_isub hx hb dc_M_groups_59 ?_
    refine lv_topi (fun v60 e60 => ?_)
    have hw := hw v60 e60
    refine lv_istore (lv' := [(9, .int v60), (8, .int r51), (7, .int (0 : Int32)), (6, .int t0), (0, .ref h1), (1, .int x1), (2, .int x2), (4, .int x4), (5, .int x5)]) hx hb dc_M_groups_60 hl (Nat.le_of_ble_eq_true rfl) rfl (fun ls hl => ?_)
    obtain ⟨n62, hw⟩ := hw
    exact B_62 K20 hK20 n62 _ _ _ x1 x2 x4 x5 (0 : Int32) r51 v60 kb51 kw51 ks51 ka51 kq51 kc51 kr51 kt51 kd51 many51 tsz51 thr51 hw hP hD hS (lv_sub hl [4, 5, 6, 7, 8, 2, 1, 0] rfl)
  have B_20 : ∀ (n20 : Nat) (H : Heap) (locs : List Loc) (ls : Array Slot) (x1 : Int32) (x2 : Int32) (x4 : Int32) (x5 : Int32) (kb : (Nat → Int32)) (kw : (Nat → Int32)) (ks : (Nat → Int32)) (ka : (Nat → Int32)) (kq : (Nat → Int32)) (kc : (Nat → Int32)) (kr : (Nat → Int32)) (kt : (Nat → Int32)) (kd : (Nat → Int32)) (many : Int32) (tsz : Int32) (thr : Int32), wp_M_groups_20 post n20 x1 x2 x4 x5 kb kw ks ka kq kc kr kt kd many tsz thr → va_P (dC, dI) cs_3 (wd_M h1 pB pW pS pA pQ pC pR pT pD cJ cI cZ cB kb kw ks ka kq kc kr kt kd many tsz thr) H → va_D A (wd_M h1 pB pW pS pA pQ pC pR pT pD cJ cI cZ cB kb kw ks ka kq kc kr kt kd many tsz thr) → va_S A s.heap H locs → lv_has ls 10 [(0, .ref h1), (1, .int x1), (2, .int x2), (4, .int x4), (5, .int x5)] → W p l e (headSpec ws_M_groups rm_M_groups).room s m ([.ref h1, .int a1, .int a2, .int a3] : List Value).toArray below meth c H locs 0 0 (MQ below (qv_M dC dI cJ cI cZ cB h1 pB pW pS pA pQ pC pR pT pD post A) ([.ref h1, .int a1, .int a2, .int a3] : List Value).toArray s 0 0 A) (F0 m 20 ls []) := by
    intro n20
    induction n20 with
    | zero => intro H locs ls x1 x2 x4 x5 kb kw ks ka kq kc kr kt kd many tsz thr hw; exact False.elim hw
    | succ n20 ih =>
      intro H locs ls x1 x2 x4 x5 kb kw ks ka kq kc kr kt kd many tsz thr hw hP hD hS hl
      unfold wp_M_groups_20 at hw
      refine lv_iload hx hb dc_M_groups_20 (lv_at hl 4 rfl) ?_
      obtain ⟨hw1, hw2⟩ := hw
      refine lv_if_lt (tgt := 154) hx hb dc_M_groups_22 (by decide) (fun hc => ?_) (fun hc => ?_)
      · have hw := hw1 hc
        clear hw1 hw2
        exact W.vret hx hb hr (fun t ht hW => ⟨⟨(kb, kw, ks, ka, kq, kc, kr, kt, kd, many, tsz, thr), rfl, hw, by rw [ht]; exact hP, va_K.moved hW.alike hK, hD⟩, hS.F ht⟩) hS.2.2 dc_M_groups_154
      · have hw := hw2 hc
        clear hw1 hw2
        refine lv_iload hx hb dc_M_groups_25 (lv_at hl 4 rfl) ?_
        refine lv_iload_n hx hb dc_M_groups_27 rfl (lv_at hl 1 rfl) ?_
        refine lv_iadd hx hb dc_M_groups_28 ?_
        refine lv_iload_n hx hb dc_M_groups_29 rfl (lv_at hl 2 rfl) ?_
        obtain ⟨hw1, hw2⟩ := hw
        refine lv_icmp_le (tgt := 37) hx hb dc_M_groups_30 (by decide) (fun hc => ?_) (fun hc => ?_)
        · have hw := hw1 hc
          clear hw1 hw2
          refine lv_iload hx hb dc_M_groups_37 (lv_at hl 4 rfl) ?_
          refine lv_iload_n hx hb dc_M_groups_39 rfl (lv_at hl 1 rfl) ?_
          refine lv_iadd hx hb dc_M_groups_40 ?_
          exact B_41 (wp_M_groups_20 post n20) ih _ _ _ x1 x2 x4 x5 (x5 + x1) kb kw ks ka kq kc kr kt kd many tsz thr hw hP hD hS (lv_sub hl [0, 1, 2, 3, 4] rfl)
        · have hw := hw2 hc
          clear hw1 hw2
          refine lv_iload_n hx hb dc_M_groups_33 rfl (lv_at hl 2 rfl) ?_
          refine lv_goto (tgt := 41) hx hb dc_M_groups_34 (by decide) ?_
          exact B_41 (wp_M_groups_20 post n20) ih _ _ _ x1 x2 x4 x5 x2 kb kw ks ka kq kc kr kt kd many tsz thr hw hP hD hS (lv_sub hl [0, 1, 2, 3, 4] rfl)
  have B_9 : ∀ (H : Heap) (locs : List Loc) (ls : Array Slot) (x1 : Int32) (x2 : Int32) (t0 : Int32) (kb : (Nat → Int32)) (kw : (Nat → Int32)) (ks : (Nat → Int32)) (ka : (Nat → Int32)) (kq : (Nat → Int32)) (kc : (Nat → Int32)) (kr : (Nat → Int32)) (kt : (Nat → Int32)) (kd : (Nat → Int32)) (many : Int32) (tsz : Int32) (thr : Int32), wp_M_groups_9 post x1 x2 t0 kb kw ks ka kq kc kr kt kd many tsz thr → va_P (dC, dI) cs_3 (wd_M h1 pB pW pS pA pQ pC pR pT pD cJ cI cZ cB kb kw ks ka kq kc kr kt kd many tsz thr) H → va_D A (wd_M h1 pB pW pS pA pQ pC pR pT pD cJ cI cZ cB kb kw ks ka kq kc kr kt kd many tsz thr) → va_S A s.heap H locs → lv_has ls 10 [(0, .ref h1), (1, .int x1), (2, .int x2)] → W p l e (headSpec ws_M_groups rm_M_groups).room s m ([.ref h1, .int a1, .int a2, .int a3] : List Value).toArray below meth c H locs 0 0 (MQ below (qv_M dC dI cJ cI cZ cB h1 pB pW pS pA pQ pC pR pT pD post A) ([.ref h1, .int a1, .int a2, .int a3] : List Value).toArray s 0 0 A) (F0 m 9 ls [.int t0]) := by
    intro H locs ls x1 x2 t0 kb kw ks ka kq kc kr kt kd many tsz thr hw hP hD hS hl
    unfold wp_M_groups_9 at hw
    refine lv_istore (lv' := [(4, .int t0), (0, .ref h1), (1, .int x1), (2, .int x2)]) hx hb dc_M_groups_9 hl (Nat.le_of_ble_eq_true rfl) rfl (fun ls hl => ?_)
    refine lv_iload_n hx hb dc_M_groups_11 rfl (lv_at hl 3 rfl) ?_
    refine lv_iconst (v := 1) hx hb dc_M_groups_12 (by decide) ?_
    refine lv_isub hx hb dc_M_groups_13 ?_
    refine lv_iload_n hx hb dc_M_groups_14 rfl (lv_at hl 2 rfl) ?_
    obtain ⟨hne, hw⟩ := hw
    refine lv_idiv hx hb dc_M_groups_15 hne ?_
    refine lv_iload_n hx hb dc_M_groups_16 rfl (lv_at hl 2 rfl) ?_
    refine lv_imul hx hb dc_M_groups_17 ?_
    refine lv_topi (fun v18 e18 => ?_)
    have hw := hw v18 e18
    refine lv_istore (lv' := [(5, .int v18), (4, .int t0), (0, .ref h1), (1, .int x1), (2, .int x2)]) hx hb dc_M_groups_18 hl (Nat.le_of_ble_eq_true rfl) rfl (fun ls hl => ?_)
    obtain ⟨n20, hw⟩ := hw
    exact B_20 n20 _ _ _ x1 x2 t0 v18 kb kw ks ka kq kc kr kt kd many tsz thr hw hP hD hS (lv_sub hl [2, 3, 4, 1, 0] rfl)
  unfold wp_M_groups at hw
  refine lv_iload_n hx hb dc_M_groups_0 rfl (lv_at hl 3 rfl) ?_
  obtain ⟨hw1, hw2⟩ := hw
  refine lv_if_ne (tgt := 8) hx hb dc_M_groups_1 (by decide) (fun hc => ?_) (fun hc => ?_)
  · have hw := hw1 hc
    clear hw1 hw2
    refine lv_iconst (v := 0) hx hb dc_M_groups_8 (by decide) ?_
    exact B_9 _ _ _ a1 a2 (0 : Int32) kb kw ks ka kq kc kr kt kd many tsz thr hw hP hD hS (lv_sub hl [0, 1, 2] rfl)
  · have hw := hw2 (fun h9 => h9 hc)
    clear hw1 hw2
    refine lv_iconst (v := 1) hx hb dc_M_groups_4 (by decide) ?_
    refine lv_goto (tgt := 9) hx hb dc_M_groups_5 (by decide) ?_
    exact B_9 _ _ _ a1 a2 (1 : Int32) kb kw ks ka kq kc kr kt kd many tsz thr hw hP hD hS (lv_sub hl [0, 1, 2] rfl)
set_option maxHeartbeats 4000000 in
set_option maxRecDepth 100000 in
theorem kt_M_number (l : Launch) (dC : Nat → ClassId) (dI : Nat → Nat → Nat) (cJ cI cZ cB : ClassId) (h1 pB pW pS pA pQ pC pR pT pD : Nat) (sz : Nat) (a1 : Int32) (a2 : Int32) (a3 : Int32) (kb : (Nat → Int32)) (kw : (Nat → Int32)) (ks : (Nat → Int32)) (ka : (Nat → Int32)) (kq : (Nat → Int32)) (kc : (Nat → Int32)) (kr : (Nat → Int32)) (kt : (Nat → Int32)) (kd : (Nat → Int32)) (many : Int32) (tsz : Int32) (thr : Int32) (post : (Nat → Int32) → (Nat → Int32) → (Nat → Int32) → (Nat → Int32) → (Nat → Int32) → (Nat → Int32) → (Nat → Int32) → (Nat → Int32) → (Nat → Int32) → Int32 → Int32 → Int32 → Prop) (hw : wp_M_number post a1 a2 a3 kb kw ks ka kq kc kr kt kd many tsz thr) : Met l yn_M_number ws_M_number rm_M_number (va_Pc [.ref h1, .int a1, .int a2, .int a3] (pc_W (dC, dI) (ty_4 cJ cI cZ cB) (wd_M h1 pB pW pS pA pQ pC pR pT pD cJ cI cZ cB kb kw ks ka kq kc kr kt kd many tsz thr) sz)) (qv_M dC dI cJ cI cZ cB h1 pB pW pS pA pQ pC pR pT pD post (va_A (wd_M h1 pB pW pS pA pQ pC pR pT pD cJ cI cZ cB kb kw ks ka kq kc kr kt kd many tsz thr) sz)) 0 0 (va_A (wd_M h1 pB pW pS pA pQ pC pR pT pD cJ cI cZ cB kb kw ks ka kq kc kr kt kd many tsz thr) sz) := by
  refine Met.ofW (cc := cd_M_number) (maxL := 9) (ret := none) (by decide) rfl ?_
  intro p e s m args below meth c s₁ B hml hv
  obtain ⟨rfl, hsz, hP, hK, hD0, hE⟩ := hv
  have hx := B.exec
  have hb := B.bytes
  have hr := B.returns
  have hts := atoms_spec (ws := ws_M_number) B.pre
  have hq : ∀ {w : Cond}, w ∈ wg_all → w.before ([.ref h1, .int a1, .int a2, .int a3] : List Value).toArray s = true := fun h => hts _ (List.mem_cons_of_mem _ h)
  have hu : ∀ L : List Cond, (∀ w ∈ L, w ∈ wg_all) → ∀ w ∈ L, w ∈ ws_M_number := fun L h w hw => List.mem_cons_of_mem _ (h w hw)
  have hown : s.vm.findClass "FourWordsModel" = some m.cls := findClass_of_methodNamed B.named
  have hlocks := B.notSynchronized
  subst hsz
  have hD := hD0.self (sz := s.heap.size)
  generalize hAe : va_A (wd_M h1 pB pW pS pA pQ pC pR pT pD cJ cI cZ cB kb kw ks ka kq kc kr kt kd many tsz thr) s.heap.size = A at hD ⊢
  have hA : ∀ q : Nat, s.heap.size ≤ q → A q := fun q h => by rw [← hAe]; exact Or.inr h
  have hS : va_S A s.heap s.heap [] := va_S.rf
  have hl := lv_entry [.ref h1, .int a1, .int a2, .int a3] (n := 9) (Nat.le_of_ble_eq_true rfl)
  rw [lg_entry_eq]
  generalize (lg_sl [.ref h1, .int a1, .int a2, .int a3] ++ List.replicate (9 - (lg_sl [.ref h1, .int a1, .int a2, .int a3]).length) Slot.unset).toArray = ls at hl ⊢
  have hl : lv_has ls 9 [(0, .ref h1), (1, .int a1), (2, .int a2), (3, .int a3)] := hl
  have B_197 : ∀ (K171 : Int32 → Int32 → (Nat → Int32) → (Nat → Int32) → (Nat → Int32) → (Nat → Int32) → (Nat → Int32) → (Nat → Int32) → (Nat → Int32) → (Nat → Int32) → (Nat → Int32) → Int32 → Int32 → Int32 → Prop) (hK171 : ∀ (H : Heap) (locs : List Loc) (ls : Array Slot) (x5 : Int32) (x8 : Int32) (kb : (Nat → Int32)) (kw : (Nat → Int32)) (ks : (Nat → Int32)) (ka : (Nat → Int32)) (kq : (Nat → Int32)) (kc : (Nat → Int32)) (kr : (Nat → Int32)) (kt : (Nat → Int32)) (kd : (Nat → Int32)) (many : Int32) (tsz : Int32) (thr : Int32), K171 x5 x8 kb kw ks ka kq kc kr kt kd many tsz thr → va_P (dC, dI) cs_3 (wd_M h1 pB pW pS pA pQ pC pR pT pD cJ cI cZ cB kb kw ks ka kq kc kr kt kd many tsz thr) H → va_D A (wd_M h1 pB pW pS pA pQ pC pR pT pD cJ cI cZ cB kb kw ks ka kq kc kr kt kd many tsz thr) → va_S A s.heap H locs → lv_has ls 9 [(0, .ref h1), (5, .int x5), (8, .int x8)] → W p l e (headSpec ws_M_number rm_M_number).room s m ([.ref h1, .int a1, .int a2, .int a3] : List Value).toArray below meth c H locs 0 0 (MQ below (qv_M dC dI cJ cI cZ cB h1 pB pW pS pA pQ pC pR pT pD post A) ([.ref h1, .int a1, .int a2, .int a3] : List Value).toArray s 0 0 A) (F0 m 171 ls [])) (H : Heap) (locs : List Loc) (ls : Array Slot) (x5 : Int32) (x8 : Int32) (t0 : Int32) (kb : (Nat → Int32)) (kw : (Nat → Int32)) (ks : (Nat → Int32)) (ka : (Nat → Int32)) (kq : (Nat → Int32)) (kc : (Nat → Int32)) (kr : (Nat → Int32)) (kt : (Nat → Int32)) (kd : (Nat → Int32)) (many : Int32) (tsz : Int32) (thr : Int32), wp_M_number_197 K171 post x5 x8 t0 kb kw ks ka kq kc kr kt kd many tsz thr → va_P (dC, dI) cs_3 (wd_M h1 pB pW pS pA pQ pC pR pT pD cJ cI cZ cB kb kw ks ka kq kc kr kt kd many tsz thr) H → va_D A (wd_M h1 pB pW pS pA pQ pC pR pT pD cJ cI cZ cB kb kw ks ka kq kc kr kt kd many tsz thr) → va_S A s.heap H locs → lv_has ls 9 [(0, .ref h1), (5, .int x5), (8, .int x8)] → W p l e (headSpec ws_M_number rm_M_number).room s m ([.ref h1, .int a1, .int a2, .int a3] : List Value).toArray below meth c H locs 0 0 (MQ below (qv_M dC dI cJ cI cZ cB h1 pB pW pS pA pQ pC pR pT pD post A) ([.ref h1, .int a1, .int a2, .int a3] : List Value).toArray s 0 0 A) (F0 m 197 ls [.int t0, .ref h1]) := by
    intro K171 hK171 H locs ls x5 x8 t0 kb kw ks ka kq kc kr kt kd many tsz thr hw hP hD hS hl
    unfold wp_M_number_197 at hw
    refine gc_v (S := (Nat → Int32) × (Nat → Int32) × (Nat → Int32) × (Nat → Int32) × (Nat → Int32) × (Nat → Int32) × (Nat → Int32) × (Nat → Int32) × (Nat → Int32) × Int32 × Int32 × Int32) (w1 := (fun u => (wd_M h1 pB pW pS pA pQ pC pR pT pD cJ cI cZ cB u.1 u.2.1 u.2.2.1 u.2.2.2.1 u.2.2.2.2.1 u.2.2.2.2.2.1 u.2.2.2.2.2.2.1 u.2.2.2.2.2.2.2.1 u.2.2.2.2.2.2.2.2.1 u.2.2.2.2.2.2.2.2.2.1 u.2.2.2.2.2.2.2.2.2.2.1 u.2.2.2.2.2.2.2.2.2.2.2))) (wc := (wd_M h1 pB pW pS pA pQ pC pR pT pD cJ cI cZ cB kb kw ks ka kq kc kr kt kd many tsz thr)) (wr := ([] : va_W)) (va_runV (As := [.int t0]) (rest := []) ⟨hx, hb, hml, hown, hts⟩ (kt_M_put l dC dI cJ cI cZ cB h1 pB pW pS pA pQ pC pR pT pD _ t0 kb kw ks ka kq kc kr kt kd many tsz thr _ hw) ⟨callB_of 1 hts (gw_in mw_t650) rfl rfl rfl (hq mw_t3) (hq mw_t647) (by decide +kernel) ⟨Nat.le_of_ble_eq_true rfl, Nat.le_of_ble_eq_true rfl⟩, hq mw_t649, hq mw_s52⟩ (pv_W (va_recv (q0 := 0) (ci := 2) hK hP rfl rfl) (hP.sub (ws' := (wd_M h1 pB pW pS pA pQ pC pR pT pD cJ cI cZ cB kb kw ks ka kq kc kr kt kd many tsz thr)) [0, 1, 2, 3, 4, 5, 6, 7, 8, 9] rfl) hK (hD.sub (ws' := (wd_M h1 pB pW pS pA pQ pC pR pT pD cJ cI cZ cB kb kw ks ka kq kc kr kt kd many tsz thr)) [0, 1, 2, 3, 4, 5, 6, 7, 8, 9] (by decide) rfl) hE) rfl rfl hl.1 rfl (lv_room (Nat.le_of_ble_eq_true rfl)) dc_M_number_197 ⟨Nat.le_of_ble_eq_true rfl, Nat.le_of_ble_eq_true rfl⟩) hP hD hS hA [0, 1, 2, 3, 4, 5, 6, 7, 8, 9] [] rfl rfl (by decide) (by decide) (fun u H locs hw hP hD hS => ?_)
    obtain ⟨kb197, kw197, ks197, ka197, kq197, kc197, kr197, kt197, kd197, many197, tsz197, thr197⟩ := u
    have hP : va_P (dC, dI) cs_3 (wd_M h1 pB pW pS pA pQ pC pR pT pD cJ cI cZ cB kb197 kw197 ks197 ka197 kq197 kc197 kr197 kt197 kd197 many197 tsz197 thr197) H := hP.sub (ws' := (wd_M h1 pB pW pS pA pQ pC pR pT pD cJ cI cZ cB kb197 kw197 ks197 ka197 kq197 kc197 kr197 kt197 kd197 many197 tsz197 thr197)) [0, 1, 2, 3, 4, 5, 6, 7, 8, 9] rfl
    have hD : va_D A (wd_M h1 pB pW pS pA pQ pC pR pT pD cJ cI cZ cB kb197 kw197 ks197 ka197 kq197 kc197 kr197 kt197 kd197 many197 tsz197 thr197) := hD.sub (ws' := (wd_M h1 pB pW pS pA pQ pC pR pT pD cJ cI cZ cB kb197 kw197 ks197 ka197 kq197 kc197 kr197 kt197 kd197 many197 tsz197 thr197)) [0, 1, 2, 3, 4, 5, 6, 7, 8, 9] (by decide) rfl
    try dsimp only at hw
    refine lv_iinc (lv' := [(8, .int (x8 + (-1))), (0, .ref h1), (5, .int x5)]) hx hb dc_M_number_200 hl (k := 2) rfl (ic_m1 _) (Nat.le_of_ble_eq_true rfl) rfl (fun ls hl => ?_)
    refine lv_goto (tgt := 171) hx hb dc_M_number_203 (by decide) ?_
    exact hK171 _ _ _ x5 (x8 + (-1)) kb197 kw197 ks197 ka197 kq197 kc197 kr197 kt197 kd197 many197 tsz197 thr197 hw hP hD hS (lv_sub hl [1, 2, 0] rfl)
  have B_171 : ∀ (n171 : Nat) (H : Heap) (locs : List Loc) (ls : Array Slot) (x5 : Int32) (x8 : Int32) (kb : (Nat → Int32)) (kw : (Nat → Int32)) (ks : (Nat → Int32)) (ka : (Nat → Int32)) (kq : (Nat → Int32)) (kc : (Nat → Int32)) (kr : (Nat → Int32)) (kt : (Nat → Int32)) (kd : (Nat → Int32)) (many : Int32) (tsz : Int32) (thr : Int32), wp_M_number_171 post n171 x5 x8 kb kw ks ka kq kc kr kt kd many tsz thr → va_P (dC, dI) cs_3 (wd_M h1 pB pW pS pA pQ pC pR pT pD cJ cI cZ cB kb kw ks ka kq kc kr kt kd many tsz thr) H → va_D A (wd_M h1 pB pW pS pA pQ pC pR pT pD cJ cI cZ cB kb kw ks ka kq kc kr kt kd many tsz thr) → va_S A s.heap H locs → lv_has ls 9 [(0, .ref h1), (5, .int x5), (8, .int x8)] → W p l e (headSpec ws_M_number rm_M_number).room s m ([.ref h1, .int a1, .int a2, .int a3] : List Value).toArray below meth c H locs 0 0 (MQ below (qv_M dC dI cJ cI cZ cB h1 pB pW pS pA pQ pC pR pT pD post A) ([.ref h1, .int a1, .int a2, .int a3] : List Value).toArray s 0 0 A) (F0 m 171 ls []) := by
    intro n171
    induction n171 with
    | zero => intro H locs ls x5 x8 kb kw ks ka kq kc kr kt kd many tsz thr hw; exact False.elim hw
    | succ n171 ih =>
      intro H locs ls x5 x8 kb kw ks ka kq kc kr kt kd many tsz thr hw hP hD hS hl
      unfold wp_M_number_171 at hw
      refine lv_iload hx hb dc_M_number_171 (lv_at hl 2 rfl) ?_
      obtain ⟨hw1, hw2⟩ := hw
      refine lv_if_lt (tgt := 206) hx hb dc_M_number_173 (by decide) (fun hc => ?_) (fun hc => ?_)
      · have hw := hw1 hc
        clear hw1 hw2
        exact W.vret hx hb hr (fun t ht hW => ⟨⟨(kb, kw, ks, ka, kq, kc, kr, kt, kd, many, tsz, thr), rfl, hw, by rw [ht]; exact hP, va_K.moved hW.alike hK, hD⟩, hS.F ht⟩) hS.2.2 dc_M_number_206
      · have hw := hw2 hc
        clear hw1 hw2
        refine lv_aload_n hx hb dc_M_number_176 rfl (lv_at hl 0 rfl) ?_
        refine lv_iload hx hb dc_M_number_177 (lv_at hl 1 rfl) ?_
        obtain ⟨hw1, hw2⟩ := hw
        refine lv_if_eq (tgt := 187) hx hb dc_M_number_179 (by decide) (fun hc => ?_) (fun hc => ?_)
        · have hw := hw1 hc
          clear hw1 hw2
          refine lv_bipush (v := 48) hx hb dc_M_number_187 (by decide) ?_
          refine lv_aload_n hx hb dc_M_number_189 rfl (lv_at hl 0 rfl) ?_
          refine va_get (D := (dC, dI)) (ci := 2) (v := .ref pD) (C := "FourWordsModel") (T := tb_M) (N := 12) hx hb hts (hu _ um_M) hown hK hP 0 rfl rfl 11 (by decide) (hq mw_t471) (fun _ h9 => h9) rfl dc_M_number_190 ?_
          refine lv_iload hx hb dc_M_number_193 (lv_at hl 2 rfl) ?_
          obtain ⟨hin, hw⟩ := hw
          refine va_bald hx hb hK hP 9 3 rfl rfl hin dc_M_number_195 ?_
          refine lv_iadd hx hb dc_M_number_196 ?_
          exact B_197 (wp_M_number_171 post n171) ih _ _ _ x5 x8 ((48 : Int32) + (kd x8.toNatClampNeg)) kb kw ks ka kq kc kr kt kd many tsz thr hw hP hD hS (lv_sub hl [0, 1, 2] rfl)
        · have hw := hw2 hc
          clear hw1 hw2
          refine lv_iload hx hb dc_M_number_182 (lv_at hl 1 rfl) ?_
          refine lv_goto (tgt := 197) hx hb dc_M_number_184 (by decide) ?_
          exact B_197 (wp_M_number_171 post n171) ih _ _ _ x5 x8 x5 kb kw ks ka kq kc kr kt kd many tsz thr hw hP hD hS (lv_sub hl [0, 1, 2] rfl)
  have B_165 : ∀ (H : Heap) (locs : List Loc) (ls : Array Slot) (x5 : Int32) (x6 : Int32) (kb : (Nat → Int32)) (kw : (Nat → Int32)) (ks : (Nat → Int32)) (ka : (Nat → Int32)) (kq : (Nat → Int32)) (kc : (Nat → Int32)) (kr : (Nat → Int32)) (kt : (Nat → Int32)) (kd : (Nat → Int32)) (many : Int32) (tsz : Int32) (thr : Int32), wp_M_number_165 post x5 x6 kb kw ks ka kq kc kr kt kd many tsz thr → va_P (dC, dI) cs_3 (wd_M h1 pB pW pS pA pQ pC pR pT pD cJ cI cZ cB kb kw ks ka kq kc kr kt kd many tsz thr) H → va_D A (wd_M h1 pB pW pS pA pQ pC pR pT pD cJ cI cZ cB kb kw ks ka kq kc kr kt kd many tsz thr) → va_S A s.heap H locs → lv_has ls 9 [(0, .ref h1), (5, .int x5), (6, .int x6)] → W p l e (headSpec ws_M_number rm_M_number).room s m ([.ref h1, .int a1, .int a2, .int a3] : List Value).toArray below meth c H locs 0 0 (MQ below (qv_M dC dI cJ cI cZ cB h1 pB pW pS pA pQ pC pR pT pD post A) ([.ref h1, .int a1, .int a2, .int a3] : List Value).toArray s 0 0 A) (F0 m 165 ls []) := by
    intro H locs ls x5 x6 kb kw ks ka kq kc kr kt kd many tsz thr hw hP hD hS hl
    unfold wp_M_number_165 at hw
    refine lv_iload hx hb dc_M_number_165 (lv_at hl 2 rfl) ?_
    refine lv_iconst (v := 1) hx hb dc_M_number_167 (by decide) ?_
    refine lv_isub hx hb dc_M_number_168 ?_
    refine lv_topi (fun v169 e169 => ?_)
    have hw := hw v169 e169
    refine lv_istore (lv' := [(8, .int v169), (0, .ref h1), (5, .int x5), (6, .int x6)]) hx hb dc_M_number_169 hl (Nat.le_of_ble_eq_true rfl) rfl (fun ls hl => ?_)
    obtain ⟨n171, hw⟩ := hw
    exact B_171 n171 _ _ _ x5 v169 kb kw ks ka kq kc kr kt kd many tsz thr hw hP hD hS (lv_sub hl [1, 2, 0] rfl)
  have B_154 : ∀ (H : Heap) (locs : List Loc) (ls : Array Slot) (x5 : Int32) (x6 : Int32) (x7 : Int32) (kb : (Nat → Int32)) (kw : (Nat → Int32)) (ks : (Nat → Int32)) (ka : (Nat → Int32)) (kq : (Nat → Int32)) (kc : (Nat → Int32)) (kr : (Nat → Int32)) (kt : (Nat → Int32)) (kd : (Nat → Int32)) (many : Int32) (tsz : Int32) (thr : Int32), wp_M_number_154 post x5 x6 x7 kb kw ks ka kq kc kr kt kd many tsz thr → va_P (dC, dI) cs_3 (wd_M h1 pB pW pS pA pQ pC pR pT pD cJ cI cZ cB kb kw ks ka kq kc kr kt kd many tsz thr) H → va_D A (wd_M h1 pB pW pS pA pQ pC pR pT pD cJ cI cZ cB kb kw ks ka kq kc kr kt kd many tsz thr) → va_S A s.heap H locs → lv_has ls 9 [(0, .ref h1), (5, .int x5), (6, .int x6), (7, .int x7)] → W p l e (headSpec ws_M_number rm_M_number).room s m ([.ref h1, .int a1, .int a2, .int a3] : List Value).toArray below meth c H locs 0 0 (MQ below (qv_M dC dI cJ cI cZ cB h1 pB pW pS pA pQ pC pR pT pD post A) ([.ref h1, .int a1, .int a2, .int a3] : List Value).toArray s 0 0 A) (F0 m 154 ls []) := by
    intro H locs ls x5 x6 x7 kb kw ks ka kq kc kr kt kd many tsz thr hw hP hD hS hl
    unfold wp_M_number_154 at hw
    refine lv_iload hx hb dc_M_number_154 (lv_at hl 3 rfl) ?_
    obtain ⟨hw1, hw2⟩ := hw
    refine lv_if_eq (tgt := 165) hx hb dc_M_number_156 (by decide) (fun hc => ?_) (fun hc => ?_)
    · have hw := hw1 hc
      clear hw1 hw2
      exact B_165 _ _ _ x5 x6 kb kw ks ka kq kc kr kt kd many tsz thr hw hP hD hS (lv_sub hl [0, 1, 2] rfl)
    · have hw := hw2 hc
      clear hw1 hw2
      refine lv_aload_n hx hb dc_M_number_159 rfl (lv_at hl 0 rfl) ?_
      refine lv_bipush (v := 45) hx hb dc_M_number_160 (by decide) ?_
      refine gc_v (S := (Nat → Int32) × (Nat → Int32) × (Nat → Int32) × (Nat → Int32) × (Nat → Int32) × (Nat → Int32) × (Nat → Int32) × (Nat → Int32) × (Nat → Int32) × Int32 × Int32 × Int32) (w1 := (fun u => (wd_M h1 pB pW pS pA pQ pC pR pT pD cJ cI cZ cB u.1 u.2.1 u.2.2.1 u.2.2.2.1 u.2.2.2.2.1 u.2.2.2.2.2.1 u.2.2.2.2.2.2.1 u.2.2.2.2.2.2.2.1 u.2.2.2.2.2.2.2.2.1 u.2.2.2.2.2.2.2.2.2.1 u.2.2.2.2.2.2.2.2.2.2.1 u.2.2.2.2.2.2.2.2.2.2.2))) (wc := (wd_M h1 pB pW pS pA pQ pC pR pT pD cJ cI cZ cB kb kw ks ka kq kc kr kt kd many tsz thr)) (wr := ([] : va_W)) (va_runV (As := [.int (45 : Int32)]) (rest := []) ⟨hx, hb, hml, hown, hts⟩ (kt_M_put l dC dI cJ cI cZ cB h1 pB pW pS pA pQ pC pR pT pD _ (45 : Int32) kb kw ks ka kq kc kr kt kd many tsz thr _ hw) ⟨callB_of 1 hts (gw_in mw_t650) rfl rfl rfl (hq mw_t3) (hq mw_t647) (by decide +kernel) ⟨Nat.le_of_ble_eq_true rfl, Nat.le_of_ble_eq_true rfl⟩, hq mw_t649, hq mw_s52⟩ (pv_W (va_recv (q0 := 0) (ci := 2) hK hP rfl rfl) (hP.sub (ws' := (wd_M h1 pB pW pS pA pQ pC pR pT pD cJ cI cZ cB kb kw ks ka kq kc kr kt kd many tsz thr)) [0, 1, 2, 3, 4, 5, 6, 7, 8, 9] rfl) hK (hD.sub (ws' := (wd_M h1 pB pW pS pA pQ pC pR pT pD cJ cI cZ cB kb kw ks ka kq kc kr kt kd many tsz thr)) [0, 1, 2, 3, 4, 5, 6, 7, 8, 9] (by decide) rfl) hE) rfl rfl hl.1 rfl (lv_room (Nat.le_of_ble_eq_true rfl)) dc_M_number_162 ⟨Nat.le_of_ble_eq_true rfl, Nat.le_of_ble_eq_true rfl⟩) hP hD hS hA [0, 1, 2, 3, 4, 5, 6, 7, 8, 9] [] rfl rfl (by decide) (by decide) (fun u H locs hw hP hD hS => ?_)
      obtain ⟨kb162, kw162, ks162, ka162, kq162, kc162, kr162, kt162, kd162, many162, tsz162, thr162⟩ := u
      have hP : va_P (dC, dI) cs_3 (wd_M h1 pB pW pS pA pQ pC pR pT pD cJ cI cZ cB kb162 kw162 ks162 ka162 kq162 kc162 kr162 kt162 kd162 many162 tsz162 thr162) H := hP.sub (ws' := (wd_M h1 pB pW pS pA pQ pC pR pT pD cJ cI cZ cB kb162 kw162 ks162 ka162 kq162 kc162 kr162 kt162 kd162 many162 tsz162 thr162)) [0, 1, 2, 3, 4, 5, 6, 7, 8, 9] rfl
      have hD : va_D A (wd_M h1 pB pW pS pA pQ pC pR pT pD cJ cI cZ cB kb162 kw162 ks162 ka162 kq162 kc162 kr162 kt162 kd162 many162 tsz162 thr162) := hD.sub (ws' := (wd_M h1 pB pW pS pA pQ pC pR pT pD cJ cI cZ cB kb162 kw162 ks162 ka162 kq162 kc162 kr162 kt162 kd162 many162 tsz162 thr162)) [0, 1, 2, 3, 4, 5, 6, 7, 8, 9] (by decide) rfl
      try dsimp only at hw
      exact B_165 _ _ _ x5 x6 kb162 kw162 ks162 ka162 kq162 kc162 kr162 kt162 kd162 many162 tsz162 thr162 hw hP hD hS (lv_sub hl [0, 1, 2] rfl)
  have B_131 : ∀ (n131 : Nat) (H : Heap) (locs : List Loc) (ls : Array Slot) (x3 : Int32) (x4 : Int32) (x5 : Int32) (x6 : Int32) (x7 : Int32) (x8 : Int32) (kb : (Nat → Int32)) (kw : (Nat → Int32)) (ks : (Nat → Int32)) (ka : (Nat → Int32)) (kq : (Nat → Int32)) (kc : (Nat → Int32)) (kr : (Nat → Int32)) (kt : (Nat → Int32)) (kd : (Nat → Int32)) (many : Int32) (tsz : Int32) (thr : Int32), wp_M_number_131 post n131 x3 x4 x5 x6 x7 x8 kb kw ks ka kq kc kr kt kd many tsz thr → va_P (dC, dI) cs_3 (wd_M h1 pB pW pS pA pQ pC pR pT pD cJ cI cZ cB kb kw ks ka kq kc kr kt kd many tsz thr) H → va_D A (wd_M h1 pB pW pS pA pQ pC pR pT pD cJ cI cZ cB kb kw ks ka kq kc kr kt kd many tsz thr) → va_S A s.heap H locs → lv_has ls 9 [(0, .ref h1), (3, .int x3), (4, .int x4), (5, .int x5), (6, .int x6), (7, .int x7), (8, .int x8)] → W p l e (headSpec ws_M_number rm_M_number).room s m ([.ref h1, .int a1, .int a2, .int a3] : List Value).toArray below meth c H locs 0 0 (MQ below (qv_M dC dI cJ cI cZ cB h1 pB pW pS pA pQ pC pR pT pD post A) ([.ref h1, .int a1, .int a2, .int a3] : List Value).toArray s 0 0 A) (F0 m 131 ls []) := by
    intro n131
    induction n131 with
    | zero => intro H locs ls x3 x4 x5 x6 x7 x8 kb kw ks ka kq kc kr kt kd many tsz thr hw; exact False.elim hw
    | succ n131 ih =>
      intro H locs ls x3 x4 x5 x6 x7 x8 kb kw ks ka kq kc kr kt kd many tsz thr hw hP hD hS hl
      unfold wp_M_number_131 at hw
      refine lv_iload hx hb dc_M_number_131 (lv_at hl 6 rfl) ?_
      refine lv_iload hx hb dc_M_number_133 (lv_at hl 2 rfl) ?_
      obtain ⟨hw1, hw2⟩ := hw
      refine lv_icmp_ge (tgt := 154) hx hb dc_M_number_135 (by decide) (fun hc => ?_) (fun hc => ?_)
      · have hw := hw1 hc
        clear hw1 hw2
        exact B_154 _ _ _ x5 x6 x7 kb kw ks ka kq kc kr kt kd many tsz thr hw hP hD hS (lv_sub hl [0, 3, 4, 5] rfl)
      · have hw := hw2 hc
        clear hw1 hw2
        refine lv_iload_n hx hb dc_M_number_138 rfl (lv_at hl 1 rfl) ?_
        obtain ⟨hw1, hw2⟩ := hw
        refine lv_if_ne (tgt := 154) hx hb dc_M_number_139 (by decide) (fun hc => ?_) (fun hc => ?_)
        · have hw := hw1 hc
          clear hw1 hw2
          exact B_154 _ _ _ x5 x6 x7 kb kw ks ka kq kc kr kt kd many tsz thr hw hP hD hS (lv_sub hl [0, 3, 4, 5] rfl)
        · have hw := hw2 (fun h9 => h9 hc)
          clear hw1 hw2
          refine lv_aload_n hx hb dc_M_number_142 rfl (lv_at hl 0 rfl) ?_
          refine lv_bipush (v := 32) hx hb dc_M_number_143 (by decide) ?_
          refine gc_v (S := (Nat → Int32) × (Nat → Int32) × (Nat → Int32) × (Nat → Int32) × (Nat → Int32) × (Nat → Int32) × (Nat → Int32) × (Nat → Int32) × (Nat → Int32) × Int32 × Int32 × Int32) (w1 := (fun u => (wd_M h1 pB pW pS pA pQ pC pR pT pD cJ cI cZ cB u.1 u.2.1 u.2.2.1 u.2.2.2.1 u.2.2.2.2.1 u.2.2.2.2.2.1 u.2.2.2.2.2.2.1 u.2.2.2.2.2.2.2.1 u.2.2.2.2.2.2.2.2.1 u.2.2.2.2.2.2.2.2.2.1 u.2.2.2.2.2.2.2.2.2.2.1 u.2.2.2.2.2.2.2.2.2.2.2))) (wc := (wd_M h1 pB pW pS pA pQ pC pR pT pD cJ cI cZ cB kb kw ks ka kq kc kr kt kd many tsz thr)) (wr := ([] : va_W)) (va_runV (As := [.int (32 : Int32)]) (rest := []) ⟨hx, hb, hml, hown, hts⟩ (kt_M_put l dC dI cJ cI cZ cB h1 pB pW pS pA pQ pC pR pT pD _ (32 : Int32) kb kw ks ka kq kc kr kt kd many tsz thr _ hw) ⟨callB_of 1 hts (gw_in mw_t650) rfl rfl rfl (hq mw_t3) (hq mw_t647) (by decide +kernel) ⟨Nat.le_of_ble_eq_true rfl, Nat.le_of_ble_eq_true rfl⟩, hq mw_t649, hq mw_s52⟩ (pv_W (va_recv (q0 := 0) (ci := 2) hK hP rfl rfl) (hP.sub (ws' := (wd_M h1 pB pW pS pA pQ pC pR pT pD cJ cI cZ cB kb kw ks ka kq kc kr kt kd many tsz thr)) [0, 1, 2, 3, 4, 5, 6, 7, 8, 9] rfl) hK (hD.sub (ws' := (wd_M h1 pB pW pS pA pQ pC pR pT pD cJ cI cZ cB kb kw ks ka kq kc kr kt kd many tsz thr)) [0, 1, 2, 3, 4, 5, 6, 7, 8, 9] (by decide) rfl) hE) rfl rfl hl.1 rfl (lv_room (Nat.le_of_ble_eq_true rfl)) dc_M_number_145 ⟨Nat.le_of_ble_eq_true rfl, Nat.le_of_ble_eq_true rfl⟩) hP hD hS hA [0, 1, 2, 3, 4, 5, 6, 7, 8, 9] [] rfl rfl (by decide) (by decide) (fun u H locs hw hP hD hS => ?_)
          obtain ⟨kb145, kw145, ks145, ka145, kq145, kc145, kr145, kt145, kd145, many145, tsz145, thr145⟩ := u
          have hP : va_P (dC, dI) cs_3 (wd_M h1 pB pW pS pA pQ pC pR pT pD cJ cI cZ cB kb145 kw145 ks145 ka145 kq145 kc145 kr145 kt145 kd145 many145 tsz145 thr145) H := hP.sub (ws' := (wd_M h1 pB pW pS pA pQ pC pR pT pD cJ cI cZ cB kb145 kw145 ks145 ka145 kq145 kc145 kr145 kt145 kd145 many145 tsz145 thr145)) [0, 1, 2, 3, 4, 5, 6, 7, 8, 9] rfl
          have hD : va_D A (wd_M h1 pB pW pS pA pQ pC pR pT pD cJ cI cZ cB kb145 kw145 ks145 ka145 kq145 kc145 kr145 kt145 kd145 many145 tsz145 thr145) := hD.sub (ws' := (wd_M h1 pB pW pS pA pQ pC pR pT pD cJ cI cZ cB kb145 kw145 ks145 ka145 kq145 kc145 kr145 kt145 kd145 many145 tsz145 thr145)) [0, 1, 2, 3, 4, 5, 6, 7, 8, 9] (by decide) rfl
          try dsimp only at hw
          refine lv_iinc (lv' := [(8, .int (x8 + 1)), (0, .ref h1), (3, .int x3), (4, .int x4), (5, .int x5), (6, .int x6), (7, .int x7)]) hx hb dc_M_number_148 hl (k := 6) rfl (ic_p1 _) (Nat.le_of_ble_eq_true rfl) rfl (fun ls hl => ?_)
          refine lv_goto (tgt := 131) hx hb dc_M_number_151 (by decide) ?_
          exact ih _ _ _ x3 x4 x5 x6 x7 (x8 + 1) kb145 kw145 ks145 ka145 kq145 kc145 kr145 kt145 kd145 many145 tsz145 thr145 hw hP hD hS (lv_sub hl [1, 2, 3, 4, 5, 6, 0] rfl)
  have B_128 : ∀ (H : Heap) (locs : List Loc) (ls : Array Slot) (x3 : Int32) (x4 : Int32) (x5 : Int32) (x6 : Int32) (x7 : Int32) (t0 : Int32) (t1 : Int32) (kb : (Nat → Int32)) (kw : (Nat → Int32)) (ks : (Nat → Int32)) (ka : (Nat → Int32)) (kq : (Nat → Int32)) (kc : (Nat → Int32)) (kr : (Nat → Int32)) (kt : (Nat → Int32)) (kd : (Nat → Int32)) (many : Int32) (tsz : Int32) (thr : Int32), wp_M_number_128 post x3 x4 x5 x6 x7 t0 t1 kb kw ks ka kq kc kr kt kd many tsz thr → va_P (dC, dI) cs_3 (wd_M h1 pB pW pS pA pQ pC pR pT pD cJ cI cZ cB kb kw ks ka kq kc kr kt kd many tsz thr) H → va_D A (wd_M h1 pB pW pS pA pQ pC pR pT pD cJ cI cZ cB kb kw ks ka kq kc kr kt kd many tsz thr) → va_S A s.heap H locs → lv_has ls 9 [(0, .ref h1), (3, .int x3), (4, .int x4), (5, .int x5), (6, .int x6), (7, .int x7)] → W p l e (headSpec ws_M_number rm_M_number).room s m ([.ref h1, .int a1, .int a2, .int a3] : List Value).toArray below meth c H locs 0 0 (MQ below (qv_M dC dI cJ cI cZ cB h1 pB pW pS pA pQ pC pR pT pD post A) ([.ref h1, .int a1, .int a2, .int a3] : List Value).toArray s 0 0 A) (F0 m 128 ls [.int t0, .int t1]) := by
    intro H locs ls x3 x4 x5 x6 x7 t0 t1 kb kw ks ka kq kc kr kt kd many tsz thr hw hP hD hS hl
    unfold wp_M_number_128 at hw
    refine lv_iadd hx hb dc_M_number_128 ?_
    refine lv_topi (fun v129 e129 => ?_)
    have hw := hw v129 e129
    refine lv_istore (lv' := [(8, .int v129), (0, .ref h1), (3, .int x3), (4, .int x4), (5, .int x5), (6, .int x6), (7, .int x7)]) hx hb dc_M_number_129 hl (Nat.le_of_ble_eq_true rfl) rfl (fun ls hl => ?_)
    obtain ⟨n131, hw⟩ := hw
    exact B_131 n131 _ _ _ x3 x4 x5 x6 x7 v129 kb kw ks ka kq kc kr kt kd many tsz thr hw hP hD hS (lv_sub hl [1, 2, 3, 4, 5, 6, 0] rfl)
  have B_116 : ∀ (H : Heap) (locs : List Loc) (ls : Array Slot) (x3 : Int32) (x4 : Int32) (x5 : Int32) (x6 : Int32) (x7 : Int32) (kb : (Nat → Int32)) (kw : (Nat → Int32)) (ks : (Nat → Int32)) (ka : (Nat → Int32)) (kq : (Nat → Int32)) (kc : (Nat → Int32)) (kr : (Nat → Int32)) (kt : (Nat → Int32)) (kd : (Nat → Int32)) (many : Int32) (tsz : Int32) (thr : Int32), wp_M_number_116 post x3 x4 x5 x6 x7 kb kw ks ka kq kc kr kt kd many tsz thr → va_P (dC, dI) cs_3 (wd_M h1 pB pW pS pA pQ pC pR pT pD cJ cI cZ cB kb kw ks ka kq kc kr kt kd many tsz thr) H → va_D A (wd_M h1 pB pW pS pA pQ pC pR pT pD cJ cI cZ cB kb kw ks ka kq kc kr kt kd many tsz thr) → va_S A s.heap H locs → lv_has ls 9 [(0, .ref h1), (3, .int x3), (4, .int x4), (5, .int x5), (6, .int x6), (7, .int x7)] → W p l e (headSpec ws_M_number rm_M_number).room s m ([.ref h1, .int a1, .int a2, .int a3] : List Value).toArray below meth c H locs 0 0 (MQ below (qv_M dC dI cJ cI cZ cB h1 pB pW pS pA pQ pC pR pT pD post A) ([.ref h1, .int a1, .int a2, .int a3] : List Value).toArray s 0 0 A) (F0 m 116 ls []) := by
    intro H locs ls x3 x4 x5 x6 x7 kb kw ks ka kq kc kr kt kd many tsz thr hw hP hD hS hl
    unfold wp_M_number_116 at hw
    refine lv_iload hx hb dc_M_number_116 (lv_at hl 4 rfl) ?_
    refine lv_iload hx hb dc_M_number_118 (lv_at hl 5 rfl) ?_
    obtain ⟨hw1, hw2⟩ := hw
    refine lv_if_eq (tgt := 127) hx hb dc_M_number_120 (by decide) (fun hc => ?_) (fun hc => ?_)
    · have hw := hw1 hc
      clear hw1 hw2
      refine lv_iconst (v := 0) hx hb dc_M_number_127 (by decide) ?_
      exact B_128 _ _ _ x3 x4 x5 x6 x7 (0 : Int32) x6 kb kw ks ka kq kc kr kt kd many tsz thr hw hP hD hS (lv_sub hl [0, 1, 2, 3, 4, 5] rfl)
    · have hw := hw2 hc
      clear hw1 hw2
      refine lv_iconst (v := 1) hx hb dc_M_number_123 (by decide) ?_
      refine lv_goto (tgt := 128) hx hb dc_M_number_124 (by decide) ?_
      exact B_128 _ _ _ x3 x4 x5 x6 x7 (1 : Int32) x6 kb kw ks ka kq kc kr kt kd many tsz thr hw hP hD hS (lv_sub hl [0, 1, 2, 3, 4, 5] rfl)
  have B_96 : ∀ (H : Heap) (locs : List Loc) (ls : Array Slot) (x1 : Int32) (x3 : Int32) (x4 : Int32) (x5 : Int32) (x6 : Int32) (x7 : Int32) (kb : (Nat → Int32)) (kw : (Nat → Int32)) (ks : (Nat → Int32)) (ka : (Nat → Int32)) (kq : (Nat → Int32)) (kc : (Nat → Int32)) (kr : (Nat → Int32)) (kt : (Nat → Int32)) (kd : (Nat → Int32)) (many : Int32) (tsz : Int32) (thr : Int32), wp_M_number_96 post x1 x3 x4 x5 x6 x7 kb kw ks ka kq kc kr kt kd many tsz thr → va_P (dC, dI) cs_3 (wd_M h1 pB pW pS pA pQ pC pR pT pD cJ cI cZ cB kb kw ks ka kq kc kr kt kd many tsz thr) H → va_D A (wd_M h1 pB pW pS pA pQ pC pR pT pD cJ cI cZ cB kb kw ks ka kq kc kr kt kd many tsz thr) → va_S A s.heap H locs → lv_has ls 9 [(0, .ref h1), (1, .int x1), (3, .int x3), (4, .int x4), (5, .int x5), (6, .int x6), (7, .int x7)] → W p l e (headSpec ws_M_number rm_M_number).room s m ([.ref h1, .int a1, .int a2, .int a3] : List Value).toArray below meth c H locs 0 0 (MQ below (qv_M dC dI cJ cI cZ cB h1 pB pW pS pA pQ pC pR pT pD post A) ([.ref h1, .int a1, .int a2, .int a3] : List Value).toArray s 0 0 A) (F0 m 96 ls []) := by
    intro H locs ls x1 x3 x4 x5 x6 x7 kb kw ks ka kq kc kr kt kd many tsz thr hw hP hD hS hl
    unfold wp_M_number_96 at hw
    refine lv_iload hx hb dc_M_number_96 (lv_at hl 4 rfl) ?_
    obtain ⟨hw1, hw2⟩ := hw
    refine lv_if_ne (tgt := 116) hx hb dc_M_number_98 (by decide) (fun hc => ?_) (fun hc => ?_)
    · have hw := hw1 hc
      clear hw1 hw2
      exact B_116 _ _ _ x3 x4 x5 x6 x7 kb kw ks ka kq kc kr kt kd many tsz thr hw hP hD hS (lv_sub hl [0, 2, 3, 4, 5, 6] rfl)
    · have hw := hw2 (fun h9 => h9 hc)
      clear hw1 hw2
      refine lv_aload_n hx hb dc_M_number_101 rfl (lv_at hl 0 rfl) ?_
      refine lv_aload_n hx hb dc_M_number_102 rfl (lv_at hl 0 rfl) ?_
      refine va_get (D := (dC, dI)) (ci := 2) (v := .ref pA) (C := "FourWordsModel") (T := tb_M) (N := 12) hx hb hts (hu _ um_M) hown hK hP 0 rfl rfl 3 (by decide) (hq mw_t463) (fun _ h9 => h9) rfl dc_M_number_103 ?_
      refine lv_iload_n hx hb dc_M_number_106 rfl (lv_at hl 1 rfl) ?_
      refine lv_aload_n hx hb dc_M_number_107 rfl (lv_at hl 0 rfl) ?_
      refine va_get (D := (dC, dI)) (ci := 2) (v := .ref pD) (C := "FourWordsModel") (T := tb_M) (N := 12) hx hb hts (hu _ um_M) hown hK hP 0 rfl rfl 11 (by decide) (hq mw_t471) (fun _ h9 => h9) rfl dc_M_number_108 ?_
      refine gc_i (S := (Nat → Int32) × (Nat → Int32)) (w1 := (fun u => (wd_D h1 pA pD cJ cI cZ cB u.1 u.2))) (wc := (wd_D h1 pA pD cJ cI cZ cB ka kd)) (wr := ([(h1, .inr (2, [.ref pB, .ref pW, .ref pS, .ref pA, .ref pQ, .ref pC, .ref pR, .ref pT, .int many, .int tsz, .int thr, .ref pD])), (pB, .inl (cB, 4096, .inl kb)), (pW, .inl (cI, 64, .inl kw)), (pS, .inl (cZ, 64, .inl ks)), (pQ, .inl (cB, 64, .inl kq)), (pC, .inl (cB, 64, .inl kc)), (pR, .inl (cB, 65, .inl kr)), (pT, .inl (cB, 80, .inl kt))] : va_W)) (va_runV (As := [.ref pA, .int x1, .ref pD]) (rest := []) ⟨hx, hb, hml, hown, hts⟩ (kt_M_decimal l dC dI cJ cI cZ cB h1 pA pD _ x1 ka kd _ hw) ⟨callB_of 3 hts (gw_in mw_t642) rfl rfl rfl (hq mw_t3) (hq mw_t639) (by decide +kernel) ⟨Nat.le_of_ble_eq_true rfl, Nat.le_of_ble_eq_true rfl⟩, hq mw_t641, hq mw_s50⟩ (pv_W (va_recv (q0 := 0) (ci := 2) hK hP rfl rfl) (hP.sub (ws' := (wd_D h1 pA pD cJ cI cZ cB ka kd)) [4, 9] rfl) hK (hD.sub (ws' := (wd_D h1 pA pD cJ cI cZ cB ka kd)) [4, 9] (by decide) rfl) hE) rfl rfl hl.1 rfl (lv_room (Nat.le_of_ble_eq_true rfl)) dc_M_number_111 ⟨Nat.le_of_ble_eq_true rfl, Nat.le_of_ble_eq_true rfl⟩) hP hD hS hA [4, 9] [0, 1, 2, 3, 5, 6, 7, 8] rfl rfl (by decide) (by decide) (fun r111 u H locs hw hP hD hS => ?_)
      obtain ⟨ka111, kd111⟩ := u
      have hP : va_P (dC, dI) cs_3 (wd_M h1 pB pW pS pA pQ pC pR pT pD cJ cI cZ cB kb kw ks ka111 kq kc kr kt kd111 many tsz thr) H := hP.sub (ws' := (wd_M h1 pB pW pS pA pQ pC pR pT pD cJ cI cZ cB kb kw ks ka111 kq kc kr kt kd111 many tsz thr)) [0, 1, 2, 3, 8, 4, 5, 6, 7, 9] rfl
      have hD : va_D A (wd_M h1 pB pW pS pA pQ pC pR pT pD cJ cI cZ cB kb kw ks ka111 kq kc kr kt kd111 many tsz thr) := hD.sub (ws' := (wd_M h1 pB pW pS pA pQ pC pR pT pD cJ cI cZ cB kb kw ks ka111 kq kc kr kt kd111 many tsz thr)) [0, 1, 2, 3, 8, 4, 5, 6, 7, 9] (by decide) rfl
      try dsimp only at hw
      refine lv_istore (lv' := [(6, .int r111), (0, .ref h1), (1, .int x1), (3, .int x3), (4, .int x4), (5, .int x5), (7, .int x7)]) hx hb dc_M_number_114 hl (Nat.le_of_ble_eq_true rfl) rfl (fun ls hl => ?_)
      exact B_116 _ _ _ x3 x4 x5 r111 x7 kb kw ks ka111 kq kc kr kt kd111 many tsz thr hw hP hD hS (lv_sub hl [1, 3, 4, 5, 0, 6] rfl)
  have B_81 : ∀ (H : Heap) (locs : List Loc) (ls : Array Slot) (x1 : Int32) (x3 : Int32) (x4 : Int32) (x5 : Int32) (x6 : Int32) (t0 : Int32) (kb : (Nat → Int32)) (kw : (Nat → Int32)) (ks : (Nat → Int32)) (ka : (Nat → Int32)) (kq : (Nat → Int32)) (kc : (Nat → Int32)) (kr : (Nat → Int32)) (kt : (Nat → Int32)) (kd : (Nat → Int32)) (many : Int32) (tsz : Int32) (thr : Int32), wp_M_number_81 post x1 x3 x4 x5 x6 t0 kb kw ks ka kq kc kr kt kd many tsz thr → va_P (dC, dI) cs_3 (wd_M h1 pB pW pS pA pQ pC pR pT pD cJ cI cZ cB kb kw ks ka kq kc kr kt kd many tsz thr) H → va_D A (wd_M h1 pB pW pS pA pQ pC pR pT pD cJ cI cZ cB kb kw ks ka kq kc kr kt kd many tsz thr) → va_S A s.heap H locs → lv_has ls 9 [(0, .ref h1), (1, .int x1), (3, .int x3), (4, .int x4), (5, .int x5), (6, .int x6)] → W p l e (headSpec ws_M_number rm_M_number).room s m ([.ref h1, .int a1, .int a2, .int a3] : List Value).toArray below meth c H locs 0 0 (MQ below (qv_M dC dI cJ cI cZ cB h1 pB pW pS pA pQ pC pR pT pD post A) ([.ref h1, .int a1, .int a2, .int a3] : List Value).toArray s 0 0 A) (F0 m 81 ls [.int t0]) := by
    intro H locs ls x1 x3 x4 x5 x6 t0 kb kw ks ka kq kc kr kt kd many tsz thr hw hP hD hS hl
    unfold wp_M_number_81 at hw
    refine lv_istore (lv' := [(7, .int t0), (0, .ref h1), (1, .int x1), (3, .int x3), (4, .int x4), (5, .int x5), (6, .int x6)]) hx hb dc_M_number_81 hl (Nat.le_of_ble_eq_true rfl) rfl (fun ls hl => ?_)
    refine lv_iload hx hb dc_M_number_83 (lv_at hl 0 rfl) ?_
    obtain ⟨hw1, hw2⟩ := hw
    refine lv_if_eq (tgt := 96) hx hb dc_M_number_85 (by decide) (fun hc => ?_) (fun hc => ?_)
    · have hw := hw1 hc
      clear hw1 hw2
      exact B_96 _ _ _ x1 x3 x4 x5 x6 t0 kb kw ks ka kq kc kr kt kd many tsz thr hw hP hD hS (lv_sub hl [1, 2, 3, 4, 5, 6, 0] rfl)
    · have hw := hw2 hc
      clear hw1 hw2
      refine lv_aload_n hx hb dc_M_number_88 rfl (lv_at hl 1 rfl) ?_
      refine va_get (D := (dC, dI)) (ci := 2) (v := .ref pA) (C := "FourWordsModel") (T := tb_M) (N := 12) hx hb hts (hu _ um_M) hown hK hP 0 rfl rfl 3 (by decide) (hq mw_t463) (fun _ h9 => h9) rfl dc_M_number_89 ?_
      refine lv_iload_n hx hb dc_M_number_92 rfl (lv_at hl 2 rfl) ?_
      refine gc_v (S := (Nat → Int32)) (w1 := (fun u => (wd_A pA cJ cI cZ cB u))) (wc := (wd_A pA cJ cI cZ cB ka)) (wr := ([(h1, .inr (2, [.ref pB, .ref pW, .ref pS, .ref pA, .ref pQ, .ref pC, .ref pR, .ref pT, .int many, .int tsz, .int thr, .ref pD])), (pB, .inl (cB, 4096, .inl kb)), (pW, .inl (cI, 64, .inl kw)), (pS, .inl (cZ, 64, .inl ks)), (pQ, .inl (cB, 64, .inl kq)), (pC, .inl (cB, 64, .inl kc)), (pR, .inl (cB, 65, .inl kr)), (pT, .inl (cB, 80, .inl kt)), (pD, .inl (cB, 24, .inl kd))] : va_W)) (va_runS (As := [.ref pA, .int x1]) (rest := []) ⟨hx, hb, hml, hown, hts⟩ (kt_M_negate l dC dI cJ cI cZ cB pA _ x1 ka _ hw) ⟨callB_of 2 hts (gw_in mw_t552) rfl rfl rfl (hq mw_t3) (hq mw_t550) (by decide +kernel) ⟨Nat.le_of_ble_eq_true rfl, Nat.le_of_ble_eq_true rfl⟩, hq mw_t551⟩ (ps_W (hP.sub (ws' := (wd_A pA cJ cI cZ cB ka)) [4] rfl) hK (hD.sub (ws' := (wd_A pA cJ cI cZ cB ka)) [4] (by decide) rfl) hE) rfl rfl hl.1 rfl (lv_room (Nat.le_of_ble_eq_true rfl)) dc_M_number_93 ⟨Nat.le_of_ble_eq_true rfl, Nat.le_of_ble_eq_true rfl⟩) hP hD hS hA [4] [0, 1, 2, 3, 5, 6, 7, 8, 9] rfl rfl (by decide) (by decide) (fun u H locs hw hP hD hS => ?_)
      obtain ⟨ka93, rfl⟩ : ∃ z, z = u := ⟨_, rfl⟩
      have hP : va_P (dC, dI) cs_3 (wd_M h1 pB pW pS pA pQ pC pR pT pD cJ cI cZ cB kb kw ks ka93 kq kc kr kt kd many tsz thr) H := hP.sub (ws' := (wd_M h1 pB pW pS pA pQ pC pR pT pD cJ cI cZ cB kb kw ks ka93 kq kc kr kt kd many tsz thr)) [0, 1, 2, 3, 9, 4, 5, 6, 7, 8] rfl
      have hD : va_D A (wd_M h1 pB pW pS pA pQ pC pR pT pD cJ cI cZ cB kb kw ks ka93 kq kc kr kt kd many tsz thr) := hD.sub (ws' := (wd_M h1 pB pW pS pA pQ pC pR pT pD cJ cI cZ cB kb kw ks ka93 kq kc kr kt kd many tsz thr)) [0, 1, 2, 3, 9, 4, 5, 6, 7, 8] (by decide) rfl
      try dsimp only at hw
      exact B_96 _ _ _ x1 x3 x4 x5 x6 t0 kb kw ks ka93 kq kc kr kt kd many tsz thr hw hP hD hS (lv_sub hl [1, 2, 3, 4, 5, 6, 0] rfl)
  have B_80 : ∀ (H : Heap) (locs : List Loc) (ls : Array Slot) (x1 : Int32) (x3 : Int32) (x4 : Int32) (x5 : Int32) (x6 : Int32) (kb : (Nat → Int32)) (kw : (Nat → Int32)) (ks : (Nat → Int32)) (ka : (Nat → Int32)) (kq : (Nat → Int32)) (kc : (Nat → Int32)) (kr : (Nat → Int32)) (kt : (Nat → Int32)) (kd : (Nat → Int32)) (many : Int32) (tsz : Int32) (thr : Int32), wp_M_number_80 post x1 x3 x4 x5 x6 kb kw ks ka kq kc kr kt kd many tsz thr → va_P (dC, dI) cs_3 (wd_M h1 pB pW pS pA pQ pC pR pT pD cJ cI cZ cB kb kw ks ka kq kc kr kt kd many tsz thr) H → va_D A (wd_M h1 pB pW pS pA pQ pC pR pT pD cJ cI cZ cB kb kw ks ka kq kc kr kt kd many tsz thr) → va_S A s.heap H locs → lv_has ls 9 [(0, .ref h1), (1, .int x1), (3, .int x3), (4, .int x4), (5, .int x5), (6, .int x6)] → W p l e (headSpec ws_M_number rm_M_number).room s m ([.ref h1, .int a1, .int a2, .int a3] : List Value).toArray below meth c H locs 0 0 (MQ below (qv_M dC dI cJ cI cZ cB h1 pB pW pS pA pQ pC pR pT pD post A) ([.ref h1, .int a1, .int a2, .int a3] : List Value).toArray s 0 0 A) (F0 m 80 ls []) := by
    intro H locs ls x1 x3 x4 x5 x6 kb kw ks ka kq kc kr kt kd many tsz thr hw hP hD hS hl
    unfold wp_M_number_80 at hw
    refine lv_iconst (v := 0) hx hb dc_M_number_80 (by decide) ?_
    exact B_81 _ _ _ x1 x3 x4 x5 x6 (0 : Int32) kb kw ks ka kq kc kr kt kd many tsz thr hw hP hD hS (lv_sub hl [0, 1, 2, 3, 4, 5] rfl)
  have B_41 : ∀ (H : Heap) (locs : List Loc) (ls : Array Slot) (x1 : Int32) (x2 : Int32) (x3 : Int32) (t0 : Int32) (t1 : Int32) (kb : (Nat → Int32)) (kw : (Nat → Int32)) (ks : (Nat → Int32)) (ka : (Nat → Int32)) (kq : (Nat → Int32)) (kc : (Nat → Int32)) (kr : (Nat → Int32)) (kt : (Nat → Int32)) (kd : (Nat → Int32)) (many : Int32) (tsz : Int32) (thr : Int32), wp_M_number_41 post x1 x2 x3 t0 t1 kb kw ks ka kq kc kr kt kd many tsz thr → va_P (dC, dI) cs_3 (wd_M h1 pB pW pS pA pQ pC pR pT pD cJ cI cZ cB kb kw ks ka kq kc kr kt kd many tsz thr) H → va_D A (wd_M h1 pB pW pS pA pQ pC pR pT pD cJ cI cZ cB kb kw ks ka kq kc kr kt kd many tsz thr) → va_S A s.heap H locs → lv_has ls 9 [(0, .ref h1), (1, .int x1), (2, .int x2), (3, .int x3)] → W p l e (headSpec ws_M_number rm_M_number).room s m ([.ref h1, .int a1, .int a2, .int a3] : List Value).toArray below meth c H locs 0 0 (MQ below (qv_M dC dI cJ cI cZ cB h1 pB pW pS pA pQ pC pR pT pD post A) ([.ref h1, .int a1, .int a2, .int a3] : List Value).toArray s 0 0 A) (F0 m 41 ls [.int t0, .int t1]) := by
    intro H locs ls x1 x2 x3 t0 t1 kb kw ks ka kq kc kr kt kd many tsz thr hw hP hD hS hl
    unfold wp_M_number_41 at hw
    refine lv_iadd hx hb dc_M_number_41 ?_
    refine lv_topi (fun v42 e42 => ?_)
    have hw := hw v42 e42
    refine lv_istore (lv' := [(4, .int v42), (0, .ref h1), (1, .int x1), (2, .int x2), (3, .int x3)]) hx hb dc_M_number_42 hl (Nat.le_of_ble_eq_true rfl) rfl (fun ls hl => ?_)
    refine lv_aload_n hx hb dc_M_number_44 rfl (lv_at hl 1 rfl) ?_
    refine lv_iconst (v := 0) hx hb dc_M_number_45 (by decide) ?_
    refine lv_iload_n hx hb dc_M_number_46 rfl (lv_at hl 2 rfl) ?_
    refine gc_i (S := (Nat → Int32) × (Nat → Int32) × (Nat → Int32) × (Nat → Int32) × (Nat → Int32) × (Nat → Int32) × (Nat → Int32) × (Nat → Int32) × (Nat → Int32) × Int32 × Int32 × Int32) (w1 := (fun u => (wd_M h1 pB pW pS pA pQ pC pR pT pD cJ cI cZ cB u.1 u.2.1 u.2.2.1 u.2.2.2.1 u.2.2.2.2.1 u.2.2.2.2.2.1 u.2.2.2.2.2.2.1 u.2.2.2.2.2.2.2.1 u.2.2.2.2.2.2.2.2.1 u.2.2.2.2.2.2.2.2.2.1 u.2.2.2.2.2.2.2.2.2.2.1 u.2.2.2.2.2.2.2.2.2.2.2))) (wc := (wd_M h1 pB pW pS pA pQ pC pR pT pD cJ cI cZ cB kb kw ks ka kq kc kr kt kd many tsz thr)) (wr := ([] : va_W)) (va_runV (As := [.int (0 : Int32), .int x1]) (rest := []) ⟨hx, hb, hml, hown, hts⟩ (kt_M_sort l dC dI cJ cI cZ cB h1 pB pW pS pA pQ pC pR pT pD _ (0 : Int32) x1 kb kw ks ka kq kc kr kt kd many tsz thr _ hw) ⟨callB_of 2 hts (gw_in mw_t646) rfl rfl rfl (hq mw_t3) (hq mw_t643) (by decide +kernel) ⟨Nat.le_of_ble_eq_true rfl, Nat.le_of_ble_eq_true rfl⟩, hq mw_t645, hq mw_s51⟩ (pv_W (va_recv (q0 := 0) (ci := 2) hK hP rfl rfl) (hP.sub (ws' := (wd_M h1 pB pW pS pA pQ pC pR pT pD cJ cI cZ cB kb kw ks ka kq kc kr kt kd many tsz thr)) [0, 1, 2, 3, 4, 5, 6, 7, 8, 9] rfl) hK (hD.sub (ws' := (wd_M h1 pB pW pS pA pQ pC pR pT pD cJ cI cZ cB kb kw ks ka kq kc kr kt kd many tsz thr)) [0, 1, 2, 3, 4, 5, 6, 7, 8, 9] (by decide) rfl) hE) rfl rfl hl.1 rfl (lv_room (Nat.le_of_ble_eq_true rfl)) dc_M_number_47 ⟨Nat.le_of_ble_eq_true rfl, Nat.le_of_ble_eq_true rfl⟩) hP hD hS hA [0, 1, 2, 3, 4, 5, 6, 7, 8, 9] [] rfl rfl (by decide) (by decide) (fun r47 u H locs hw hP hD hS => ?_)
    obtain ⟨kb47, kw47, ks47, ka47, kq47, kc47, kr47, kt47, kd47, many47, tsz47, thr47⟩ := u
    have hP : va_P (dC, dI) cs_3 (wd_M h1 pB pW pS pA pQ pC pR pT pD cJ cI cZ cB kb47 kw47 ks47 ka47 kq47 kc47 kr47 kt47 kd47 many47 tsz47 thr47) H := hP.sub (ws' := (wd_M h1 pB pW pS pA pQ pC pR pT pD cJ cI cZ cB kb47 kw47 ks47 ka47 kq47 kc47 kr47 kt47 kd47 many47 tsz47 thr47)) [0, 1, 2, 3, 4, 5, 6, 7, 8, 9] rfl
    have hD : va_D A (wd_M h1 pB pW pS pA pQ pC pR pT pD cJ cI cZ cB kb47 kw47 ks47 ka47 kq47 kc47 kr47 kt47 kd47 many47 tsz47 thr47) := hD.sub (ws' := (wd_M h1 pB pW pS pA pQ pC pR pT pD cJ cI cZ cB kb47 kw47 ks47 ka47 kq47 kc47 kr47 kt47 kd47 many47 tsz47 thr47)) [0, 1, 2, 3, 4, 5, 6, 7, 8, 9] (by decide) rfl
    try dsimp only at hw
    refine lv_istore (lv' := [(5, .int r47), (4, .int v42), (0, .ref h1), (1, .int x1), (2, .int x2), (3, .int x3)]) hx hb dc_M_number_50 hl (Nat.le_of_ble_eq_true rfl) rfl (fun ls hl => ?_)
    refine lv_iconst (v := 1) hx hb dc_M_number_52 (by decide) ?_
    refine lv_istore (lv' := [(6, .int (1 : Int32)), (5, .int r47), (4, .int v42), (0, .ref h1), (1, .int x1), (2, .int x2), (3, .int x3)]) hx hb dc_M_number_53 hl (Nat.le_of_ble_eq_true rfl) rfl (fun ls hl => ?_)
    refine lv_iload hx hb dc_M_number_55 (lv_at hl 1 rfl) ?_
    obtain ⟨hw1, hw2⟩ := hw
    refine lv_if_ne (tgt := 80) hx hb dc_M_number_57 (by decide) (fun hc => ?_) (fun hc => ?_)
    · have hw := hw1 hc
      clear hw1 hw2
      exact B_80 _ _ _ x1 x3 v42 r47 (1 : Int32) kb47 kw47 ks47 ka47 kq47 kc47 kr47 kt47 kd47 many47 tsz47 thr47 hw hP hD hS (lv_sub hl [3, 4, 6, 2, 1, 0] rfl)
    · have hw := hw2 (fun h9 => h9 hc)
      clear hw1 hw2
      refine lv_iload_n hx hb dc_M_number_60 rfl (lv_at hl 5 rfl) ?_
      obtain ⟨hw1, hw2⟩ := hw
      refine lv_if_eq (tgt := 80) hx hb dc_M_number_61 (by decide) (fun hc => ?_) (fun hc => ?_)
      · have hw := hw1 hc
        clear hw1 hw2
        exact B_80 _ _ _ x1 x3 v42 r47 (1 : Int32) kb47 kw47 ks47 ka47 kq47 kc47 kr47 kt47 kd47 many47 tsz47 thr47 hw hP hD hS (lv_sub hl [3, 4, 6, 2, 1, 0] rfl)
      · have hw := hw2 hc
        clear hw1 hw2
        refine lv_aload_n hx hb dc_M_number_64 rfl (lv_at hl 3 rfl) ?_
        refine va_get (D := (dC, dI)) (ci := 2) (v := .ref pA) (C := "FourWordsModel") (T := tb_M) (N := 12) hx hb hts (hu _ um_M) hown hK hP 0 rfl rfl 3 (by decide) (hq mw_t463) (fun _ h9 => h9) rfl dc_M_number_65 ?_
        refine lv_iload_n hx hb dc_M_number_68 rfl (lv_at hl 4 rfl) ?_
        refine lv_iconst (v := 1) hx hb dc_M_number_69 (by decide) ?_
        refine lv_isub hx hb dc_M_number_70 ?_
        obtain ⟨hin, hw⟩ := hw
        refine va_bald hx hb hK hP 4 3 rfl rfl hin dc_M_number_71 ?_
        refine lv_iconst (v := 1) hx hb dc_M_number_72 (by decide) ?_
        obtain ⟨hw1, hw2⟩ := hw
        refine lv_icmp_ne (tgt := 80) hx hb dc_M_number_73 (by decide) (fun hc => ?_) (fun hc => ?_)
        · have hw := hw1 hc
          clear hw1 hw2
          exact B_80 _ _ _ x1 x3 v42 r47 (1 : Int32) kb47 kw47 ks47 ka47 kq47 kc47 kr47 kt47 kd47 many47 tsz47 thr47 hw hP hD hS (lv_sub hl [3, 4, 6, 2, 1, 0] rfl)
        · have hw := hw2 (fun h9 => h9 hc)
          clear hw1 hw2
          refine lv_iconst (v := 1) hx hb dc_M_number_76 (by decide) ?_
          refine lv_goto (tgt := 81) hx hb dc_M_number_77 (by decide) ?_
          exact B_81 _ _ _ x1 x3 v42 r47 (1 : Int32) (1 : Int32) kb47 kw47 ks47 ka47 kq47 kc47 kr47 kt47 kd47 many47 tsz47 thr47 hw hP hD hS (lv_sub hl [3, 4, 6, 2, 1, 0] rfl)
  have B_25 : ∀ (H : Heap) (locs : List Loc) (ls : Array Slot) (x1 : Int32) (x2 : Int32) (x3 : Int32) (t0 : Int32) (kb : (Nat → Int32)) (kw : (Nat → Int32)) (ks : (Nat → Int32)) (ka : (Nat → Int32)) (kq : (Nat → Int32)) (kc : (Nat → Int32)) (kr : (Nat → Int32)) (kt : (Nat → Int32)) (kd : (Nat → Int32)) (many : Int32) (tsz : Int32) (thr : Int32), wp_M_number_25 post x1 x2 x3 t0 kb kw ks ka kq kc kr kt kd many tsz thr → va_P (dC, dI) cs_3 (wd_M h1 pB pW pS pA pQ pC pR pT pD cJ cI cZ cB kb kw ks ka kq kc kr kt kd many tsz thr) H → va_D A (wd_M h1 pB pW pS pA pQ pC pR pT pD cJ cI cZ cB kb kw ks ka kq kc kr kt kd many tsz thr) → va_S A s.heap H locs → lv_has ls 9 [(0, .ref h1), (1, .int x1), (2, .int x2), (3, .int x3)] → W p l e (headSpec ws_M_number rm_M_number).room s m ([.ref h1, .int a1, .int a2, .int a3] : List Value).toArray below meth c H locs 0 0 (MQ below (qv_M dC dI cJ cI cZ cB h1 pB pW pS pA pQ pC pR pT pD post A) ([.ref h1, .int a1, .int a2, .int a3] : List Value).toArray s 0 0 A) (F0 m 25 ls [.int t0, .ref pC, .ref h1]) := by
    intro H locs ls x1 x2 x3 t0 kb kw ks ka kq kc kr kt kd many tsz thr hw hP hD hS hl
    unfold wp_M_number_25 at hw
    refine lv_aload_n hx hb dc_M_number_25 rfl (lv_at hl 0 rfl) ?_
    refine va_get (D := (dC, dI)) (ci := 2) (v := .ref pD) (C := "FourWordsModel") (T := tb_M) (N := 12) hx hb hts (hu _ um_M) hown hK hP 0 rfl rfl 11 (by decide) (hq mw_t471) (fun _ h9 => h9) rfl dc_M_number_26 ?_
    refine gc_i (S := (Nat → Int32) × (Nat → Int32)) (w1 := (fun u => (wd_D h1 pC pD cJ cI cZ cB u.1 u.2))) (wc := (wd_D h1 pC pD cJ cI cZ cB kc kd)) (wr := ([(h1, .inr (2, [.ref pB, .ref pW, .ref pS, .ref pA, .ref pQ, .ref pC, .ref pR, .ref pT, .int many, .int tsz, .int thr, .ref pD])), (pB, .inl (cB, 4096, .inl kb)), (pW, .inl (cI, 64, .inl kw)), (pS, .inl (cZ, 64, .inl ks)), (pA, .inl (cB, 64, .inl ka)), (pQ, .inl (cB, 64, .inl kq)), (pR, .inl (cB, 65, .inl kr)), (pT, .inl (cB, 80, .inl kt))] : va_W)) (va_runV (As := [.ref pC, .int t0, .ref pD]) (rest := []) ⟨hx, hb, hml, hown, hts⟩ (kt_M_decimal l dC dI cJ cI cZ cB h1 pC pD _ t0 kc kd _ hw) ⟨callB_of 3 hts (gw_in mw_t642) rfl rfl rfl (hq mw_t3) (hq mw_t639) (by decide +kernel) ⟨Nat.le_of_ble_eq_true rfl, Nat.le_of_ble_eq_true rfl⟩, hq mw_t641, hq mw_s50⟩ (pv_W (va_recv (q0 := 0) (ci := 2) hK hP rfl rfl) (hP.sub (ws' := (wd_D h1 pC pD cJ cI cZ cB kc kd)) [6, 9] rfl) hK (hD.sub (ws' := (wd_D h1 pC pD cJ cI cZ cB kc kd)) [6, 9] (by decide) rfl) hE) rfl rfl hl.1 rfl (lv_room (Nat.le_of_ble_eq_true rfl)) dc_M_number_29 ⟨Nat.le_of_ble_eq_true rfl, Nat.le_of_ble_eq_true rfl⟩) hP hD hS hA [6, 9] [0, 1, 2, 3, 4, 5, 7, 8] rfl rfl (by decide) (by decide) (fun r29 u H locs hw hP hD hS => ?_)
    obtain ⟨kc29, kd29⟩ := u
    have hP : va_P (dC, dI) cs_3 (wd_M h1 pB pW pS pA pQ pC pR pT pD cJ cI cZ cB kb kw ks ka kq kc29 kr kt kd29 many tsz thr) H := hP.sub (ws' := (wd_M h1 pB pW pS pA pQ pC pR pT pD cJ cI cZ cB kb kw ks ka kq kc29 kr kt kd29 many tsz thr)) [0, 1, 2, 3, 4, 5, 8, 6, 7, 9] rfl
    have hD : va_D A (wd_M h1 pB pW pS pA pQ pC pR pT pD cJ cI cZ cB kb kw ks ka kq kc29 kr kt kd29 many tsz thr) := hD.sub (ws' := (wd_M h1 pB pW pS pA pQ pC pR pT pD cJ cI cZ cB kb kw ks ka kq kc29 kr kt kd29 many tsz thr)) [0, 1, 2, 3, 4, 5, 8, 6, 7, 9] (by decide) rfl
    try dsimp only at hw
    refine lv_iload_n hx hb dc_M_number_32 rfl (lv_at hl 2 rfl) ?_
    obtain ⟨hw1, hw2⟩ := hw
    refine lv_if_eq (tgt := 40) hx hb dc_M_number_33 (by decide) (fun hc => ?_) (fun hc => ?_)
    · have hw := hw1 hc
      clear hw1 hw2
      refine lv_iconst (v := 0) hx hb dc_M_number_40 (by decide) ?_
      exact B_41 _ _ _ x1 x2 x3 (0 : Int32) r29 kb kw ks ka kq kc29 kr kt kd29 many tsz thr hw hP hD hS (lv_sub hl [0, 1, 2, 3] rfl)
    · have hw := hw2 hc
      clear hw1 hw2
      refine lv_iconst (v := 1) hx hb dc_M_number_36 (by decide) ?_
      refine lv_goto (tgt := 41) hx hb dc_M_number_37 (by decide) ?_
      exact B_41 _ _ _ x1 x2 x3 (1 : Int32) r29 kb kw ks ka kq kc29 kr kt kd29 many tsz thr hw hP hD hS (lv_sub hl [0, 1, 2, 3] rfl)
  unfold wp_M_number at hw
  refine lv_aload_n hx hb dc_M_number_0 rfl (lv_at hl 0 rfl) ?_
  refine va_get (D := (dC, dI)) (ci := 2) (v := .ref pC) (C := "FourWordsModel") (T := tb_M) (N := 12) hx hb hts (hu _ um_M) hown hK hP 0 rfl rfl 5 (by decide) (hq mw_t465) (fun _ h9 => h9) rfl dc_M_number_1 ?_
  refine lv_iload_n hx hb dc_M_number_4 rfl (lv_at hl 1 rfl) ?_
  refine lv_iconst (v := 1) hx hb dc_M_number_5 (by decide) ?_
  refine gc_v (S := (Nat → Int32)) (w1 := (fun u => (wd_A pC cJ cI cZ cB u))) (wc := (wd_A pC cJ cI cZ cB kc)) (wr := ([(h1, .inr (2, [.ref pB, .ref pW, .ref pS, .ref pA, .ref pQ, .ref pC, .ref pR, .ref pT, .int many, .int tsz, .int thr, .ref pD])), (pB, .inl (cB, 4096, .inl kb)), (pW, .inl (cI, 64, .inl kw)), (pS, .inl (cZ, 64, .inl ks)), (pA, .inl (cB, 64, .inl ka)), (pQ, .inl (cB, 64, .inl kq)), (pR, .inl (cB, 65, .inl kr)), (pT, .inl (cB, 80, .inl kt)), (pD, .inl (cB, 24, .inl kd))] : va_W)) (va_runS (As := [.ref pC, .int a1, .int (1 : Int32)]) (rest := []) ⟨hx, hb, hml, hown, hts⟩ (kt_M_fill l dC dI cJ cI cZ cB pC _ a1 (1 : Int32) kc _ hw) ⟨callB_of 3 hts (gw_in mw_t538) rfl rfl rfl (hq mw_t3) (hq mw_t536) (by decide +kernel) ⟨Nat.le_of_ble_eq_true rfl, Nat.le_of_ble_eq_true rfl⟩, hq mw_t537⟩ (ps_W (hP.sub (ws' := (wd_A pC cJ cI cZ cB kc)) [6] rfl) hK (hD.sub (ws' := (wd_A pC cJ cI cZ cB kc)) [6] (by decide) rfl) hE) rfl rfl hl.1 rfl (lv_room (Nat.le_of_ble_eq_true rfl)) dc_M_number_6 ⟨Nat.le_of_ble_eq_true rfl, Nat.le_of_ble_eq_true rfl⟩) hP hD hS hA [6] [0, 1, 2, 3, 4, 5, 7, 8, 9] rfl rfl (by decide) (by decide) (fun u H locs hw hP hD hS => ?_)
  obtain ⟨kc6, rfl⟩ : ∃ z, z = u := ⟨_, rfl⟩
  have hP : va_P (dC, dI) cs_3 (wd_M h1 pB pW pS pA pQ pC pR pT pD cJ cI cZ cB kb kw ks ka kq kc6 kr kt kd many tsz thr) H := hP.sub (ws' := (wd_M h1 pB pW pS pA pQ pC pR pT pD cJ cI cZ cB kb kw ks ka kq kc6 kr kt kd many tsz thr)) [0, 1, 2, 3, 4, 5, 9, 6, 7, 8] rfl
  have hD : va_D A (wd_M h1 pB pW pS pA pQ pC pR pT pD cJ cI cZ cB kb kw ks ka kq kc6 kr kt kd many tsz thr) := hD.sub (ws' := (wd_M h1 pB pW pS pA pQ pC pR pT pD cJ cI cZ cB kb kw ks ka kq kc6 kr kt kd many tsz thr)) [0, 1, 2, 3, 4, 5, 9, 6, 7, 8] (by decide) rfl
  try dsimp only at hw
  refine lv_aload_n hx hb dc_M_number_9 rfl (lv_at hl 0 rfl) ?_
  refine lv_aload_n hx hb dc_M_number_10 rfl (lv_at hl 0 rfl) ?_
  refine va_get (D := (dC, dI)) (ci := 2) (v := .ref pC) (C := "FourWordsModel") (T := tb_M) (N := 12) hx hb hts (hu _ um_M) hown hK hP 0 rfl rfl 5 (by decide) (hq mw_t465) (fun _ h9 => h9) rfl dc_M_number_11 ?_
  refine lv_iload_n hx hb dc_M_number_14 rfl (lv_at hl 2 rfl) ?_
  obtain ⟨hw1, hw2⟩ := hw
  refine lv_if_eq (tgt := 24) hx hb dc_M_number_15 (by decide) (fun hc => ?_) (fun hc => ?_)
  · have hw := hw1 hc
    clear hw1 hw2
    refine lv_iload_n hx hb dc_M_number_24 rfl (lv_at hl 1 rfl) ?_
    exact B_25 _ _ _ a1 a2 a3 a1 kb kw ks ka kq kc6 kr kt kd many tsz thr hw hP hD hS (lv_sub hl [0, 1, 2, 3] rfl)
  · have hw := hw2 hc
    clear hw1 hw2
    refine lv_iload_n hx hb dc_M_number_18 rfl (lv_at hl 1 rfl) ?_
    refine lv_iconst (v := 1) hx hb dc_M_number_19 (by decide) ?_
    refine lv_isub hx hb dc_M_number_20 ?_
    refine lv_goto (tgt := 25) hx hb dc_M_number_21 (by decide) ?_
    exact B_25 _ _ _ a1 a2 a3 (a1 - (1 : Int32)) kb kw ks ka kq kc6 kr kt kd many tsz thr hw hP hD hS (lv_sub hl [0, 1, 2, 3] rfl)

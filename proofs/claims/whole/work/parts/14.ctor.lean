theorem ra_eq {U : State} {a b : ClassId} {ty : FieldType} (h1 : va_RA U a ty) (h2 : va_RA U b ty) : a = b := by
  cases ty with
  | object C =>
    obtain ⟨_, _, _, _, _, h1⟩ := h1
    obtain ⟨_, _, _, _, _, h2⟩ := h2
    exact Option.some.inj (h1.symm.trans h2)
  | _ => exact Option.some.inj (Eq.trans (Eq.symm h1) h2)
section FWN
variable {p : Program} {l : Launch} {e : Env} {R : Room} {s : State} {m : MethodId} {args : Array Value} {below : List Frame} {meth : Method} {c : Code} {H : Heap} {locs : List Loc} {cells slots : Nat} {Q : State → Prop}
variable {pc : Nat} {ls : Array Slot} {rest : List Value} {A : Nat → Prop} {H0 : Heap} {D : va_G} {tys : List (ClassId × FieldType)} {ws : va_W} {cc : ByteArray} {cl : List vw_C}
theorem gn_a (hexec : p.tables.exec = Jvm.exec) (hb : c.code = cc) {atype : ArrayType} {ty : FieldType} (hty : newarray.typeOf atype = ty) (harr : (Cond.arrayClass ty).before args s = true) (hK : va_K D cl tys s) (hP : va_P D cl ws H) (hD : va_D A ws) (hS : va_S A H0 H locs) (hA : ∀ q, H0.size ≤ q → A q)
    {n : Int32} {N' : Nat} {a0 : vp_A} (t0 : Nat) {cA0 : ClassId} (ht : tys[t0]? = some (cA0, ty)) (ha : ∀ cA : ClassId, vp_cell cA a0 = arrV cA N' (fun _ => defaultValue ty)) (hn : ¬ n < 0) (hN : n.toNatClampNeg = N') (hbytes : N' * componentBytes ty ≤ 536870912) (hcells : cells + 1 ≤ R.cells) (hslots : slots + N' ≤ R.slots) (hdg : decode cc pc = .ok (.newarray atype, 2))
    (kk : ∀ (q : Nat) (H1 : Heap), va_P D cl (ws ++ [(q, .inl (cA0, a0))]) H1 → va_D A (ws ++ [(q, .inl (cA0, a0))]) → va_S A H0 H1 locs →
      W p l e R s m args below meth c H1 locs (cells + 1) (slots + N') Q (F0 m (pc + 2) ls (.ref q :: rest))) : W p l e R s m args below meth c H locs cells slots Q (F0 m pc ls (.int n :: rest)) := by
  refine va_newa hexec hb (by rw [hty]; exact harr) hty hK hP hD hS hA ha hn hN hbytes hcells hslots hdg (fun q cA H1 hK1 hP1 hD1 hS1 => ?_)
  have h1 := (hK1.2 tys.length (cA, ty) (by simp)).2
  have h2 := (hK.2 t0 _ ht).2
  have e1 : cA = cA0 := ra_eq h1 h2
  subst e1
  exact kk q H1 hP1 hD1 hS1
end FWN

abbrev rm_N_init : Room := { frames := 1, cells := 1, slots := 64, locals := 12 }
abbrev ws_N_init : List Cond := .code yn_N_init cd_N_init 1 none :: wg_all
set_option maxHeartbeats 4000000 in
set_option maxRecDepth 100000 in
theorem kt_N_init (l : Launch) (dC : Nat → ClassId) (dI : Nat → Nat → Nat) (cJ cI cZ cB : ClassId) (qN : Nat) (sz : Nat) : Met l yn_N_init ws_N_init rm_N_init (va_Pc [.ref qN] (pc_W (dC, dI) (ty_4 cJ cI cZ cB) [(qN, .inr (0, [.null, .int 0]))] sz)) (va_Qv (fun _ : Unit => True) (fun (_ : Unit) (t : State) => ∃ q7 : Nat, va_P (dC, dI) cs_3 [(qN, .inr (0, [.ref q7, .int 0])), (q7, .inl (cB, 64, .inl (fun _ => 0)))] t.heap ∧ va_K (dC, dI) cs_3 (ty_4 cJ cI cZ cB) t ∧ va_D (va_A [(qN, .inr (0, [.null, .int 0]))] sz) [(qN, .inr (0, [.ref q7, .int 0])), (q7, .inl (cB, 64, .inl (fun _ => 0)))]) (va_A [(qN, .inr (0, [.null, .int 0]))] sz)) 1 64 (va_A [(qN, .inr (0, [.null, .int 0]))] sz) := by
  refine Met.ofW (cc := cd_N_init) (maxL := 1) (ret := none) (by decide) rfl ?_
  intro p e s m args below meth c s₁ B hml hv
  obtain ⟨rfl, hsz, hP, hK, hD0, hE⟩ := hv
  have hx := B.exec
  have hb := B.bytes
  have hr := B.returns
  have hts := atoms_spec (ws := ws_N_init) B.pre
  have hq : ∀ {w : Cond}, w ∈ wg_all → w.before ([.ref qN] : List Value).toArray s = true := fun h => hts _ (List.mem_cons_of_mem _ h)
  have hu : ∀ L : List Cond, (∀ w ∈ L, w ∈ wg_all) → ∀ w ∈ L, w ∈ ws_N_init := fun L h w hw => List.mem_cons_of_mem _ (h w hw)
  have hown : s.vm.findClass "FourWords$Line" = some m.cls := findClass_of_methodNamed B.named
  have hlocks := B.notSynchronized
  have hin : meth.name = "<init>" := (name_of_methodNamed B.named B.method).1
  subst hsz
  have hD := hD0.self (sz := s.heap.size)
  generalize hAe : va_A [(qN, .inr (0, [.null, .int 0]))] s.heap.size = A at hD ⊢
  have hA : ∀ q : Nat, s.heap.size ≤ q → A q := fun q h => by rw [← hAe]; exact Or.inr h
  have hS : va_S A s.heap s.heap [] := va_S.rf
  have hl := lv_entry [.ref qN] (n := 1) (Nat.le_of_ble_eq_true rfl)
  rw [lg_entry_eq]
  generalize (lg_sl [.ref qN] ++ List.replicate (1 - (lg_sl [.ref qN]).length) Slot.unset).toArray = ls at hl ⊢
  have hl : lv_has ls 1 [(0, .ref qN)] := hl
  refine lv_aload_n hx hb dc_N_init_0 rfl (lv_at hl 0 rfl) ?_
  refine W.objInit hx hb hown (hq mw_t26) (hq mw_t19) (hq mw_t20) rfl (by rw [hml]; exact hl.1) rfl dc_N_init_1 (Nat.le_of_ble_eq_true rfl) (Nat.le_of_ble_eq_true rfl) ?_
  refine W.eq (g2 := F0 m 4 ls []) rfl ?_
  refine lv_aload_n hx hb dc_N_init_4 rfl (lv_at hl 0 rfl) ?_
  refine lv_bipush (v := 64) hx hb dc_N_init_5 (by decide) ?_
  refine gn_a (atype := .byte) (ty := .byte) (a0 := (64, .inl (fun _ => 0))) (N' := 64) hx hb rfl (hq mw_t39) hK hP hD hS hA 3 rfl (fun cA => vp_cell_i cA 64 (fun _ => 0)) (by decide) (nI_clamp (n := 64) (by decide)) (by decide) (Nat.le_of_ble_eq_true rfl) (Nat.le_of_ble_eq_true rfl) dc_N_init_7 (fun q7 H hP hD hS => ?_)
  have hP : va_P (dC, dI) cs_3 [(qN, .inr (0, [.null, .int 0])), (q7, .inl (cB, 64, .inl (fun _ => 0)))] H := hP
  have hD : va_D A [(qN, .inr (0, [.null, .int 0])), (q7, .inl (cB, 64, .inl (fun _ => 0)))] := hD
  refine W.widen (k := 1) (n := 64) (Nat.le_of_ble_eq_true rfl) (Nat.le_of_ble_eq_true rfl) ?_
  refine va_putF (D := (dC, dI)) (ci := 0) (v := .ref q7) (ty := .array .byte) (C := "FourWords$Line") (T := tb_N) (N := 2) hx hb hts (hu _ um_N) ft_N fk_N fn_N hown hK hP hD hS 0 rfl rfl 0 (by decide) (hq mw_t27) (fun _ h9 => h9) rfl hin rfl (by decide +kernel) rfl rfl (Nat.le_of_ble_eq_true rfl) dc_N_init_9 (fun H locs hP hD hS => ?_)
  have hP : va_P (dC, dI) cs_3 [(qN, .inr (0, [.ref q7, .int 0])), (q7, .inl (cB, 64, .inl (fun _ => 0)))] H := hP
  have hD : va_D A [(qN, .inr (0, [.ref q7, .int 0])), (q7, .inl (cB, 64, .inl (fun _ => 0)))] := hD
  refine lv_aload_n hx hb dc_N_init_12 rfl (lv_at hl 0 rfl) ?_
  refine lv_iconst (v := 0) hx hb dc_N_init_13 (by decide) ?_
  refine va_put (D := (dC, dI)) (ci := 0) (v := .int 0) (ty := .int) (C := "FourWords$Line") (T := tb_N) (N := 2) hx hb hts (hu _ um_N) ft_N fk_N fn_N hown hK hP hD hS 0 rfl rfl 1 (by decide) (hq mw_t29) (fun _ h9 => h9) rfl (by decide +kernel) rfl rfl (Nat.le_of_ble_eq_true rfl) dc_N_init_14 (fun H locs hP hD hS => ?_)
  have hP : va_P (dC, dI) cs_3 [(qN, .inr (0, [.ref q7, .int 0])), (q7, .inl (cB, 64, .inl (fun _ => 0)))] H := hP
  have hD : va_D A [(qN, .inr (0, [.ref q7, .int 0])), (q7, .inl (cB, 64, .inl (fun _ => 0)))] := hD
  exact W.vret hx hb hr (fun t ht hW => ⟨⟨(), rfl, trivial, q7, by rw [ht]; exact hP, va_K.moved hW.alike hK, hD⟩, hS.F ht⟩) hS.2.2 dc_N_init_17
abbrev rm_X_init : Room := { frames := 2, cells := 6, slots := 322, locals := 32 }
abbrev ws_X_init : List Cond := .code yn_X_init cd_X_init 1 none :: wg_all
set_option maxHeartbeats 4000000 in
set_option maxRecDepth 100000 in
theorem kt_X_init (l : Launch) (dC : Nat → ClassId) (dI : Nat → Nat → Nat) (cJ cI cZ cB : ClassId) (h0 : Nat) (sz : Nat) : Met l yn_X_init ws_X_init rm_X_init (va_Pc [.ref h0] (pc_W (dC, dI) (ty_4 cJ cI cZ cB) [(h0, .inr (1, [.null, .null, .null, .null, .null, .int 0]))] sz)) (va_Qv (fun _ : Unit => True) (fun (_ : Unit) (t : State) => ∃ q7 q15 q23 q31 q37 qL : Nat, va_P (dC, dI) cs_3 [(h0, .inr (1, [.ref q7, .ref q15, .ref q23, .ref q31, .ref q37, .int 0])), (q7, .inl (cJ, 64, .inr (.inl (fun _ => 0)))), (q15, .inl (cJ, 64, .inr (.inl (fun _ => 0)))), (q23, .inl (cI, 64, .inl (fun _ => 0))), (q31, .inl (cZ, 64, .inl (fun _ => 0))), (q37, .inr (0, [.ref qL, .int 0])), (qL, .inl (cB, 64, .inl (fun _ => 0)))] t.heap ∧ va_K (dC, dI) cs_3 (ty_4 cJ cI cZ cB) t ∧ va_D (va_A [(h0, .inr (1, [.null, .null, .null, .null, .null, .int 0]))] sz) [(h0, .inr (1, [.ref q7, .ref q15, .ref q23, .ref q31, .ref q37, .int 0])), (q7, .inl (cJ, 64, .inr (.inl (fun _ => 0)))), (q15, .inl (cJ, 64, .inr (.inl (fun _ => 0)))), (q23, .inl (cI, 64, .inl (fun _ => 0))), (q31, .inl (cZ, 64, .inl (fun _ => 0))), (q37, .inr (0, [.ref qL, .int 0])), (qL, .inl (cB, 64, .inl (fun _ => 0)))]) (va_A [(h0, .inr (1, [.null, .null, .null, .null, .null, .int 0]))] sz)) 6 322 (va_A [(h0, .inr (1, [.null, .null, .null, .null, .null, .int 0]))] sz) := by
  refine Met.ofW (cc := cd_X_init) (maxL := 1) (ret := none) (by decide) rfl ?_
  intro p e s m args below meth c s₁ B hml hv
  obtain ⟨rfl, hsz, hP, hK, hD0, hE⟩ := hv
  have hx := B.exec
  have hb := B.bytes
  have hr := B.returns
  have hts := atoms_spec (ws := ws_X_init) B.pre
  have hq : ∀ {w : Cond}, w ∈ wg_all → w.before ([.ref h0] : List Value).toArray s = true := fun h => hts _ (List.mem_cons_of_mem _ h)
  have hu : ∀ L : List Cond, (∀ w ∈ L, w ∈ wg_all) → ∀ w ∈ L, w ∈ ws_X_init := fun L h w hw => List.mem_cons_of_mem _ (h w hw)
  have hown : s.vm.findClass "FourWords" = some m.cls := findClass_of_methodNamed B.named
  have hlocks := B.notSynchronized
  have hin : meth.name = "<init>" := (name_of_methodNamed B.named B.method).1
  subst hsz
  have hD := hD0.self (sz := s.heap.size)
  generalize hAe : va_A [(h0, .inr (1, [.null, .null, .null, .null, .null, .int 0]))] s.heap.size = A at hD ⊢
  have hA : ∀ q : Nat, s.heap.size ≤ q → A q := fun q h => by rw [← hAe]; exact Or.inr h
  have hS : va_S A s.heap s.heap [] := va_S.rf
  have hl := lv_entry [.ref h0] (n := 1) (Nat.le_of_ble_eq_true rfl)
  rw [lg_entry_eq]
  generalize (lg_sl [.ref h0] ++ List.replicate (1 - (lg_sl [.ref h0]).length) Slot.unset).toArray = ls at hl ⊢
  have hl : lv_has ls 1 [(0, .ref h0)] := hl
  refine lv_aload_n hx hb dc_X_init_0 rfl (lv_at hl 0 rfl) ?_
  refine W.objInit hx hb hown (hq mw_t18) (hq mw_t19) (hq mw_t20) rfl (by rw [hml]; exact hl.1) rfl dc_X_init_1 (Nat.le_of_ble_eq_true rfl) (Nat.le_of_ble_eq_true rfl) ?_
  refine W.eq (g2 := F0 m 4 ls []) rfl ?_
  refine lv_aload_n hx hb dc_X_init_4 rfl (lv_at hl 0 rfl) ?_
  refine lv_bipush (v := 64) hx hb dc_X_init_5 (by decide) ?_
  refine gn_a (atype := .long) (ty := .long) (a0 := (64, .inr (.inl (fun _ => 0)))) (N' := 64) hx hb rfl (hq mw_t36) hK hP hD hS hA 0 rfl (fun cA => vp_cell_l cA 64 (fun _ => 0)) (by decide) (nI_clamp (n := 64) (by decide)) (by decide) (Nat.le_of_ble_eq_true rfl) (Nat.le_of_ble_eq_true rfl) dc_X_init_7 (fun q7 H hP hD hS => ?_)
  have hP : va_P (dC, dI) cs_3 [(h0, .inr (1, [.null, .null, .null, .null, .null, .int 0])), (q7, .inl (cJ, 64, .inr (.inl (fun _ => 0))))] H := hP
  have hD : va_D A [(h0, .inr (1, [.null, .null, .null, .null, .null, .int 0])), (q7, .inl (cJ, 64, .inr (.inl (fun _ => 0))))] := hD
  refine W.widen (k := 1) (n := 64) (Nat.le_of_ble_eq_true rfl) (Nat.le_of_ble_eq_true rfl) ?_
  refine va_putF (D := (dC, dI)) (ci := 1) (v := .ref q7) (ty := .array .long) (C := "FourWords") (T := tb_X) (N := 6) hx hb hts (hu _ um_X) ft_X fk_X fn_X hown hK hP hD hS 0 rfl rfl 0 (by decide) (hq mw_t40) (fun _ h9 => h9) rfl hin rfl (by decide +kernel) rfl rfl (Nat.le_of_ble_eq_true rfl) dc_X_init_9 (fun H locs hP hD hS => ?_)
  have hP : va_P (dC, dI) cs_3 [(h0, .inr (1, [.ref q7, .null, .null, .null, .null, .int 0])), (q7, .inl (cJ, 64, .inr (.inl (fun _ => 0))))] H := hP
  have hD : va_D A [(h0, .inr (1, [.ref q7, .null, .null, .null, .null, .int 0])), (q7, .inl (cJ, 64, .inr (.inl (fun _ => 0))))] := hD
  refine lv_aload_n hx hb dc_X_init_12 rfl (lv_at hl 0 rfl) ?_
  refine lv_bipush (v := 64) hx hb dc_X_init_13 (by decide) ?_
  refine gn_a (atype := .long) (ty := .long) (a0 := (64, .inr (.inl (fun _ => 0)))) (N' := 64) hx hb rfl (hq mw_t36) hK hP hD hS hA 0 rfl (fun cA => vp_cell_l cA 64 (fun _ => 0)) (by decide) (nI_clamp (n := 64) (by decide)) (by decide) (Nat.le_of_ble_eq_true rfl) (Nat.le_of_ble_eq_true rfl) dc_X_init_15 (fun q15 H hP hD hS => ?_)
  have hP : va_P (dC, dI) cs_3 [(h0, .inr (1, [.ref q7, .null, .null, .null, .null, .int 0])), (q7, .inl (cJ, 64, .inr (.inl (fun _ => 0)))), (q15, .inl (cJ, 64, .inr (.inl (fun _ => 0))))] H := hP
  have hD : va_D A [(h0, .inr (1, [.ref q7, .null, .null, .null, .null, .int 0])), (q7, .inl (cJ, 64, .inr (.inl (fun _ => 0)))), (q15, .inl (cJ, 64, .inr (.inl (fun _ => 0))))] := hD
  refine W.widen (k := 2) (n := 128) (Nat.le_of_ble_eq_true rfl) (Nat.le_of_ble_eq_true rfl) ?_
  refine va_putF (D := (dC, dI)) (ci := 1) (v := .ref q15) (ty := .array .long) (C := "FourWords") (T := tb_X) (N := 6) hx hb hts (hu _ um_X) ft_X fk_X fn_X hown hK hP hD hS 0 rfl rfl 1 (by decide) (hq mw_t41) (fun _ h9 => h9) rfl hin rfl (by decide +kernel) rfl rfl (Nat.le_of_ble_eq_true rfl) dc_X_init_17 (fun H locs hP hD hS => ?_)
  have hP : va_P (dC, dI) cs_3 [(h0, .inr (1, [.ref q7, .ref q15, .null, .null, .null, .int 0])), (q7, .inl (cJ, 64, .inr (.inl (fun _ => 0)))), (q15, .inl (cJ, 64, .inr (.inl (fun _ => 0))))] H := hP
  have hD : va_D A [(h0, .inr (1, [.ref q7, .ref q15, .null, .null, .null, .int 0])), (q7, .inl (cJ, 64, .inr (.inl (fun _ => 0)))), (q15, .inl (cJ, 64, .inr (.inl (fun _ => 0))))] := hD
  refine lv_aload_n hx hb dc_X_init_20 rfl (lv_at hl 0 rfl) ?_
  refine lv_bipush (v := 64) hx hb dc_X_init_21 (by decide) ?_
  refine gn_a (atype := .int) (ty := .int) (a0 := (64, .inl (fun _ => 0))) (N' := 64) hx hb rfl (hq mw_t37) hK hP hD hS hA 1 rfl (fun cA => vp_cell_i cA 64 (fun _ => 0)) (by decide) (nI_clamp (n := 64) (by decide)) (by decide) (Nat.le_of_ble_eq_true rfl) (Nat.le_of_ble_eq_true rfl) dc_X_init_23 (fun q23 H hP hD hS => ?_)
  have hP : va_P (dC, dI) cs_3 [(h0, .inr (1, [.ref q7, .ref q15, .null, .null, .null, .int 0])), (q7, .inl (cJ, 64, .inr (.inl (fun _ => 0)))), (q15, .inl (cJ, 64, .inr (.inl (fun _ => 0)))), (q23, .inl (cI, 64, .inl (fun _ => 0)))] H := hP
  have hD : va_D A [(h0, .inr (1, [.ref q7, .ref q15, .null, .null, .null, .int 0])), (q7, .inl (cJ, 64, .inr (.inl (fun _ => 0)))), (q15, .inl (cJ, 64, .inr (.inl (fun _ => 0)))), (q23, .inl (cI, 64, .inl (fun _ => 0)))] := hD
  refine W.widen (k := 3) (n := 192) (Nat.le_of_ble_eq_true rfl) (Nat.le_of_ble_eq_true rfl) ?_
  refine va_putF (D := (dC, dI)) (ci := 1) (v := .ref q23) (ty := .array .int) (C := "FourWords") (T := tb_X) (N := 6) hx hb hts (hu _ um_X) ft_X fk_X fn_X hown hK hP hD hS 0 rfl rfl 2 (by decide) (hq mw_t42) (fun _ h9 => h9) rfl hin rfl (by decide +kernel) rfl rfl (Nat.le_of_ble_eq_true rfl) dc_X_init_25 (fun H locs hP hD hS => ?_)
  have hP : va_P (dC, dI) cs_3 [(h0, .inr (1, [.ref q7, .ref q15, .ref q23, .null, .null, .int 0])), (q7, .inl (cJ, 64, .inr (.inl (fun _ => 0)))), (q15, .inl (cJ, 64, .inr (.inl (fun _ => 0)))), (q23, .inl (cI, 64, .inl (fun _ => 0)))] H := hP
  have hD : va_D A [(h0, .inr (1, [.ref q7, .ref q15, .ref q23, .null, .null, .int 0])), (q7, .inl (cJ, 64, .inr (.inl (fun _ => 0)))), (q15, .inl (cJ, 64, .inr (.inl (fun _ => 0)))), (q23, .inl (cI, 64, .inl (fun _ => 0)))] := hD
  refine lv_aload_n hx hb dc_X_init_28 rfl (lv_at hl 0 rfl) ?_
  refine lv_bipush (v := 64) hx hb dc_X_init_29 (by decide) ?_
  refine gn_a (atype := .boolean) (ty := .boolean) (a0 := (64, .inl (fun _ => 0))) (N' := 64) hx hb rfl (hq mw_t38) hK hP hD hS hA 2 rfl (fun cA => vp_cell_i cA 64 (fun _ => 0)) (by decide) (nI_clamp (n := 64) (by decide)) (by decide) (Nat.le_of_ble_eq_true rfl) (Nat.le_of_ble_eq_true rfl) dc_X_init_31 (fun q31 H hP hD hS => ?_)
  have hP : va_P (dC, dI) cs_3 [(h0, .inr (1, [.ref q7, .ref q15, .ref q23, .null, .null, .int 0])), (q7, .inl (cJ, 64, .inr (.inl (fun _ => 0)))), (q15, .inl (cJ, 64, .inr (.inl (fun _ => 0)))), (q23, .inl (cI, 64, .inl (fun _ => 0))), (q31, .inl (cZ, 64, .inl (fun _ => 0)))] H := hP
  have hD : va_D A [(h0, .inr (1, [.ref q7, .ref q15, .ref q23, .null, .null, .int 0])), (q7, .inl (cJ, 64, .inr (.inl (fun _ => 0)))), (q15, .inl (cJ, 64, .inr (.inl (fun _ => 0)))), (q23, .inl (cI, 64, .inl (fun _ => 0))), (q31, .inl (cZ, 64, .inl (fun _ => 0)))] := hD
  refine W.widen (k := 4) (n := 256) (Nat.le_of_ble_eq_true rfl) (Nat.le_of_ble_eq_true rfl) ?_
  refine va_putF (D := (dC, dI)) (ci := 1) (v := .ref q31) (ty := .array .boolean) (C := "FourWords") (T := tb_X) (N := 6) hx hb hts (hu _ um_X) ft_X fk_X fn_X hown hK hP hD hS 0 rfl rfl 3 (by decide) (hq mw_t43) (fun _ h9 => h9) rfl hin rfl (by decide +kernel) rfl rfl (Nat.le_of_ble_eq_true rfl) dc_X_init_33 (fun H locs hP hD hS => ?_)
  have hP : va_P (dC, dI) cs_3 [(h0, .inr (1, [.ref q7, .ref q15, .ref q23, .ref q31, .null, .int 0])), (q7, .inl (cJ, 64, .inr (.inl (fun _ => 0)))), (q15, .inl (cJ, 64, .inr (.inl (fun _ => 0)))), (q23, .inl (cI, 64, .inl (fun _ => 0))), (q31, .inl (cZ, 64, .inl (fun _ => 0)))] H := hP
  have hD : va_D A [(h0, .inr (1, [.ref q7, .ref q15, .ref q23, .ref q31, .null, .int 0])), (q7, .inl (cJ, 64, .inr (.inl (fun _ => 0)))), (q15, .inl (cJ, 64, .inr (.inl (fun _ => 0)))), (q23, .inl (cI, 64, .inl (fun _ => 0))), (q31, .inl (cZ, 64, .inl (fun _ => 0)))] := hD
  refine lv_aload_n hx hb dc_X_init_36 rfl (lv_at hl 0 rfl) ?_
  refine va_new (ci := 0) (fs := [.null, .int 0]) (C := "FourWords$Line") (T := tb_N) (N := 2) hx hb hts (hu _ um_N) ft_N fk_N hown (hq mw_t21) (hq mw_t22) (hq mw_t2) hK hP hD hS hA rfl (fun j hj => by rcases (show j = 0 ∨ j = 1 by omega) with rfl | rfl <;> rfl) (Nat.le_of_ble_eq_true rfl) (Nat.le_of_ble_eq_true rfl) dc_X_init_37 (fun q37 H hP hD hS => ?_)
  have hP : va_P (dC, dI) cs_3 [(h0, .inr (1, [.ref q7, .ref q15, .ref q23, .ref q31, .null, .int 0])), (q7, .inl (cJ, 64, .inr (.inl (fun _ => 0)))), (q15, .inl (cJ, 64, .inr (.inl (fun _ => 0)))), (q23, .inl (cI, 64, .inl (fun _ => 0))), (q31, .inl (cZ, 64, .inl (fun _ => 0))), (q37, .inr (0, [.null, .int 0]))] H := hP
  have hD : va_D A [(h0, .inr (1, [.ref q7, .ref q15, .ref q23, .ref q31, .null, .int 0])), (q7, .inl (cJ, 64, .inr (.inl (fun _ => 0)))), (q15, .inl (cJ, 64, .inr (.inl (fun _ => 0)))), (q23, .inl (cI, 64, .inl (fun _ => 0))), (q31, .inl (cZ, 64, .inl (fun _ => 0))), (q37, .inr (0, [.null, .int 0]))] := hD
  refine W.widen (k := 5) (n := 258) (Nat.le_of_ble_eq_true rfl) (Nat.le_of_ble_eq_true rfl) ?_
  refine lv_dup hx hb dc_X_init_40 rfl ?_
  have hPc := hP.sub (ws' := [(q37, .inr (0, [.null, .int 0]))]) [5] rfl
  have hDc := hD.sub (ws' := [(q37, .inr (0, [.null, .int 0]))]) [5] (by decide) rfl
  have hFc := va_free (wc := [(q37, .inr (0, [.null, .int 0]))]) hD hS hA [5] rfl
  refine va_callv (va_runIN (As := []) (rest := [.ref q37, .ref h0]) ⟨hx, hb, hml, hown, hts⟩ (kt_N_init l dC dI cJ cI cZ cB q37 H.size) ⟨va_cnB 0 hts (gw_in mw_t25) rfl rfl rfl (en_X26 hE) (hq mw_t2) (by decide +kernel) ⟨Nat.le_of_ble_eq_true rfl, Nat.le_of_ble_eq_true rfl⟩, rfl, hq mw_t24⟩ (ps_W hPc hK hDc hE) rfl rfl hl.1 rfl (lv_room (Nat.le_of_ble_eq_true rfl)) dc_X_init_41 ⟨Nat.le_of_ble_eq_true rfl, Nat.le_of_ble_eq_true rfl⟩) hS (fun q _ h => hFc q h) hFc (fun u t H1 locs ht hvm hw hB hz1 hk1 hS => ?_)
  obtain ⟨qL, hP1, hK1, hD1⟩ := hB
  rw [ht] at hP1
  obtain ⟨hP, hD⟩ := va_join (wr := [(h0, .inr (1, [.ref q7, .ref q15, .ref q23, .ref q31, .null, .int 0])), (q7, .inl (cJ, 64, .inr (.inl (fun _ => 0)))), (q15, .inl (cJ, 64, .inr (.inl (fun _ => 0)))), (q23, .inl (cI, 64, .inl (fun _ => 0))), (q31, .inl (cZ, 64, .inl (fun _ => 0)))]) (w1 := [(q37, .inr (0, [.ref qL, .int 0])), (qL, .inl (cB, 64, .inl (fun _ => 0)))]) hP hD [5] [0, 1, 2, 3, 4] rfl rfl (by decide) (by decide) hk1 hFc hP1 hD1
  generalize H1 = H at hP hS ⊢
  have hP : va_P (dC, dI) cs_3 [(h0, .inr (1, [.ref q7, .ref q15, .ref q23, .ref q31, .null, .int 0])), (q7, .inl (cJ, 64, .inr (.inl (fun _ => 0)))), (q15, .inl (cJ, 64, .inr (.inl (fun _ => 0)))), (q23, .inl (cI, 64, .inl (fun _ => 0))), (q31, .inl (cZ, 64, .inl (fun _ => 0))), (q37, .inr (0, [.ref qL, .int 0])), (qL, .inl (cB, 64, .inl (fun _ => 0)))] H := hP
  have hD : va_D A [(h0, .inr (1, [.ref q7, .ref q15, .ref q23, .ref q31, .null, .int 0])), (q7, .inl (cJ, 64, .inr (.inl (fun _ => 0)))), (q15, .inl (cJ, 64, .inr (.inl (fun _ => 0)))), (q23, .inl (cI, 64, .inl (fun _ => 0))), (q31, .inl (cZ, 64, .inl (fun _ => 0))), (q37, .inr (0, [.ref qL, .int 0])), (qL, .inl (cB, 64, .inl (fun _ => 0)))] := hD
  refine W.widen (k := 6) (n := 322) (Nat.le_of_ble_eq_true rfl) (Nat.le_of_ble_eq_true rfl) ?_
  refine va_putF (D := (dC, dI)) (ci := 1) (v := .ref q37) (ty := .object "FourWords$Line") (C := "FourWords") (T := tb_X) (N := 6) hx hb hts (hu _ um_X) ft_X fk_X fn_X hown hK hP hD hS 0 rfl rfl 4 (by decide) (hq mw_t44) (fun _ h9 => h9) rfl hin rfl (by decide +kernel) rfl rfl (Nat.le_of_ble_eq_true rfl) dc_X_init_44 (fun H locs hP hD hS => ?_)
  have hP : va_P (dC, dI) cs_3 [(h0, .inr (1, [.ref q7, .ref q15, .ref q23, .ref q31, .ref q37, .int 0])), (q7, .inl (cJ, 64, .inr (.inl (fun _ => 0)))), (q15, .inl (cJ, 64, .inr (.inl (fun _ => 0)))), (q23, .inl (cI, 64, .inl (fun _ => 0))), (q31, .inl (cZ, 64, .inl (fun _ => 0))), (q37, .inr (0, [.ref qL, .int 0])), (qL, .inl (cB, 64, .inl (fun _ => 0)))] H := hP
  have hD : va_D A [(h0, .inr (1, [.ref q7, .ref q15, .ref q23, .ref q31, .ref q37, .int 0])), (q7, .inl (cJ, 64, .inr (.inl (fun _ => 0)))), (q15, .inl (cJ, 64, .inr (.inl (fun _ => 0)))), (q23, .inl (cI, 64, .inl (fun _ => 0))), (q31, .inl (cZ, 64, .inl (fun _ => 0))), (q37, .inr (0, [.ref qL, .int 0])), (qL, .inl (cB, 64, .inl (fun _ => 0)))] := hD
  refine lv_aload_n hx hb dc_X_init_47 rfl (lv_at hl 0 rfl) ?_
  refine lv_iconst (v := 0) hx hb dc_X_init_48 (by decide) ?_
  refine va_put (D := (dC, dI)) (ci := 1) (v := .int 0) (ty := .int) (C := "FourWords") (T := tb_X) (N := 6) hx hb hts (hu _ um_X) ft_X fk_X fn_X hown hK hP hD hS 0 rfl rfl 5 (by decide) (hq mw_t45) (fun _ h9 => h9) rfl (by decide +kernel) rfl rfl (Nat.le_of_ble_eq_true rfl) dc_X_init_49 (fun H locs hP hD hS => ?_)
  have hP : va_P (dC, dI) cs_3 [(h0, .inr (1, [.ref q7, .ref q15, .ref q23, .ref q31, .ref q37, .int 0])), (q7, .inl (cJ, 64, .inr (.inl (fun _ => 0)))), (q15, .inl (cJ, 64, .inr (.inl (fun _ => 0)))), (q23, .inl (cI, 64, .inl (fun _ => 0))), (q31, .inl (cZ, 64, .inl (fun _ => 0))), (q37, .inr (0, [.ref qL, .int 0])), (qL, .inl (cB, 64, .inl (fun _ => 0)))] H := hP
  have hD : va_D A [(h0, .inr (1, [.ref q7, .ref q15, .ref q23, .ref q31, .ref q37, .int 0])), (q7, .inl (cJ, 64, .inr (.inl (fun _ => 0)))), (q15, .inl (cJ, 64, .inr (.inl (fun _ => 0)))), (q23, .inl (cI, 64, .inl (fun _ => 0))), (q31, .inl (cZ, 64, .inl (fun _ => 0))), (q37, .inr (0, [.ref qL, .int 0])), (qL, .inl (cB, 64, .inl (fun _ => 0)))] := hD
  exact W.vret hx hb hr (fun t ht hW => ⟨⟨(), rfl, trivial, q7, q15, q23, q31, q37, qL, by rw [ht]; exact hP, va_K.moved hW.alike hK, hD⟩, hS.F ht⟩) hS.2.2 dc_X_init_52
abbrev rm_M_init : Room := { frames := 1, cells := 9, slots := 4585, locals := 12 }
abbrev ws_M_init : List Cond := .code yn_M_init cd_M_init 1 none :: wg_all
set_option maxHeartbeats 4000000 in
set_option maxRecDepth 100000 in
theorem kt_M_init (l : Launch) (dC : Nat → ClassId) (dI : Nat → Nat → Nat) (cJ cI cZ cB : ClassId) (h1 : Nat) (sz : Nat) : Met l yn_M_init ws_M_init rm_M_init (va_Pc [.ref h1] (pc_W (dC, dI) (ty_4 cJ cI cZ cB) [(h1, .inr (2, [.null, .null, .null, .null, .null, .null, .null, .null, .int 0, .int 0, .int 0, .null]))] sz)) (va_Qv (fun _ : Unit => True) (fun (_ : Unit) (t : State) => ∃ q8 q16 q24 q32 q40 q48 q56 q64 q72 : Nat, va_P (dC, dI) cs_3 [(h1, .inr (2, [.ref q8, .ref q16, .ref q24, .ref q32, .ref q40, .ref q48, .ref q56, .ref q64, .int 0, .int 0, .int 0, .ref q72])), (q8, .inl (cB, 4096, .inl (fun _ => 0))), (q16, .inl (cI, 64, .inl (fun _ => 0))), (q24, .inl (cZ, 64, .inl (fun _ => 0))), (q32, .inl (cB, 64, .inl (fun _ => 0))), (q40, .inl (cB, 64, .inl (fun _ => 0))), (q48, .inl (cB, 64, .inl (fun _ => 0))), (q56, .inl (cB, 65, .inl (fun _ => 0))), (q64, .inl (cB, 80, .inl (fun _ => 0))), (q72, .inl (cB, 24, .inl (fun _ => 0)))] t.heap ∧ va_K (dC, dI) cs_3 (ty_4 cJ cI cZ cB) t ∧ va_D (va_A [(h1, .inr (2, [.null, .null, .null, .null, .null, .null, .null, .null, .int 0, .int 0, .int 0, .null]))] sz) [(h1, .inr (2, [.ref q8, .ref q16, .ref q24, .ref q32, .ref q40, .ref q48, .ref q56, .ref q64, .int 0, .int 0, .int 0, .ref q72])), (q8, .inl (cB, 4096, .inl (fun _ => 0))), (q16, .inl (cI, 64, .inl (fun _ => 0))), (q24, .inl (cZ, 64, .inl (fun _ => 0))), (q32, .inl (cB, 64, .inl (fun _ => 0))), (q40, .inl (cB, 64, .inl (fun _ => 0))), (q48, .inl (cB, 64, .inl (fun _ => 0))), (q56, .inl (cB, 65, .inl (fun _ => 0))), (q64, .inl (cB, 80, .inl (fun _ => 0))), (q72, .inl (cB, 24, .inl (fun _ => 0)))]) (va_A [(h1, .inr (2, [.null, .null, .null, .null, .null, .null, .null, .null, .int 0, .int 0, .int 0, .null]))] sz)) 9 4585 (va_A [(h1, .inr (2, [.null, .null, .null, .null, .null, .null, .null, .null, .int 0, .int 0, .int 0, .null]))] sz) := by
  refine Met.ofW (cc := cd_M_init) (maxL := 1) (ret := none) (by decide) rfl ?_
  intro p e s m args below meth c s₁ B hml hv
  obtain ⟨rfl, hsz, hP, hK, hD0, hE⟩ := hv
  have hx := B.exec
  have hb := B.bytes
  have hr := B.returns
  have hts := atoms_spec (ws := ws_M_init) B.pre
  have hq : ∀ {w : Cond}, w ∈ wg_all → w.before ([.ref h1] : List Value).toArray s = true := fun h => hts _ (List.mem_cons_of_mem _ h)
  have hu : ∀ L : List Cond, (∀ w ∈ L, w ∈ wg_all) → ∀ w ∈ L, w ∈ ws_M_init := fun L h w hw => List.mem_cons_of_mem _ (h w hw)
  have hown : s.vm.findClass "FourWordsModel" = some m.cls := findClass_of_methodNamed B.named
  have hlocks := B.notSynchronized
  have hin : meth.name = "<init>" := (name_of_methodNamed B.named B.method).1
  subst hsz
  have hD := hD0.self (sz := s.heap.size)
  generalize hAe : va_A [(h1, .inr (2, [.null, .null, .null, .null, .null, .null, .null, .null, .int 0, .int 0, .int 0, .null]))] s.heap.size = A at hD ⊢
  have hA : ∀ q : Nat, s.heap.size ≤ q → A q := fun q h => by rw [← hAe]; exact Or.inr h
  have hS : va_S A s.heap s.heap [] := va_S.rf
  have hl := lv_entry [.ref h1] (n := 1) (Nat.le_of_ble_eq_true rfl)
  rw [lg_entry_eq]
  generalize (lg_sl [.ref h1] ++ List.replicate (1 - (lg_sl [.ref h1]).length) Slot.unset).toArray = ls at hl ⊢
  have hl : lv_has ls 1 [(0, .ref h1)] := hl
  refine lv_aload_n hx hb dc_M_init_0 rfl (lv_at hl 0 rfl) ?_
  refine W.objInit hx hb hown (hq mw_t459) (hq mw_t19) (hq mw_t20) rfl (by rw [hml]; exact hl.1) rfl dc_M_init_1 (Nat.le_of_ble_eq_true rfl) (Nat.le_of_ble_eq_true rfl) ?_
  refine W.eq (g2 := F0 m 4 ls []) rfl ?_
  refine lv_aload_n hx hb dc_M_init_4 rfl (lv_at hl 0 rfl) ?_
  refine lv_sipush (v := 4096) hx hb dc_M_init_5 (by decide) ?_
  refine gn_a (atype := .byte) (ty := .byte) (a0 := (4096, .inl (fun _ => 0))) (N' := 4096) hx hb rfl (hq mw_t39) hK hP hD hS hA 3 rfl (fun cA => vp_cell_i cA 4096 (fun _ => 0)) (by decide) (nI_clamp (n := 4096) (by decide)) (by decide) (Nat.le_of_ble_eq_true rfl) (Nat.le_of_ble_eq_true rfl) dc_M_init_8 (fun q8 H hP hD hS => ?_)
  have hP : va_P (dC, dI) cs_3 [(h1, .inr (2, [.null, .null, .null, .null, .null, .null, .null, .null, .int 0, .int 0, .int 0, .null])), (q8, .inl (cB, 4096, .inl (fun _ => 0)))] H := hP
  have hD : va_D A [(h1, .inr (2, [.null, .null, .null, .null, .null, .null, .null, .null, .int 0, .int 0, .int 0, .null])), (q8, .inl (cB, 4096, .inl (fun _ => 0)))] := hD
  refine W.widen (k := 1) (n := 4096) (Nat.le_of_ble_eq_true rfl) (Nat.le_of_ble_eq_true rfl) ?_
  refine va_putF (D := (dC, dI)) (ci := 2) (v := .ref q8) (ty := .array .byte) (C := "FourWordsModel") (T := tb_M) (N := 12) hx hb hts (hu _ um_M) ft_M fk_M fn_M hown hK hP hD hS 0 rfl rfl 0 (by decide) (hq mw_t460) (fun _ h9 => h9) rfl hin rfl (by decide +kernel) rfl rfl (Nat.le_of_ble_eq_true rfl) dc_M_init_10 (fun H locs hP hD hS => ?_)
  have hP : va_P (dC, dI) cs_3 [(h1, .inr (2, [.ref q8, .null, .null, .null, .null, .null, .null, .null, .int 0, .int 0, .int 0, .null])), (q8, .inl (cB, 4096, .inl (fun _ => 0)))] H := hP
  have hD : va_D A [(h1, .inr (2, [.ref q8, .null, .null, .null, .null, .null, .null, .null, .int 0, .int 0, .int 0, .null])), (q8, .inl (cB, 4096, .inl (fun _ => 0)))] := hD
  refine lv_aload_n hx hb dc_M_init_13 rfl (lv_at hl 0 rfl) ?_
  refine lv_bipush (v := 64) hx hb dc_M_init_14 (by decide) ?_
  refine gn_a (atype := .int) (ty := .int) (a0 := (64, .inl (fun _ => 0))) (N' := 64) hx hb rfl (hq mw_t37) hK hP hD hS hA 1 rfl (fun cA => vp_cell_i cA 64 (fun _ => 0)) (by decide) (nI_clamp (n := 64) (by decide)) (by decide) (Nat.le_of_ble_eq_true rfl) (Nat.le_of_ble_eq_true rfl) dc_M_init_16 (fun q16 H hP hD hS => ?_)
  have hP : va_P (dC, dI) cs_3 [(h1, .inr (2, [.ref q8, .null, .null, .null, .null, .null, .null, .null, .int 0, .int 0, .int 0, .null])), (q8, .inl (cB, 4096, .inl (fun _ => 0))), (q16, .inl (cI, 64, .inl (fun _ => 0)))] H := hP
  have hD : va_D A [(h1, .inr (2, [.ref q8, .null, .null, .null, .null, .null, .null, .null, .int 0, .int 0, .int 0, .null])), (q8, .inl (cB, 4096, .inl (fun _ => 0))), (q16, .inl (cI, 64, .inl (fun _ => 0)))] := hD
  refine W.widen (k := 2) (n := 4160) (Nat.le_of_ble_eq_true rfl) (Nat.le_of_ble_eq_true rfl) ?_
  refine va_putF (D := (dC, dI)) (ci := 2) (v := .ref q16) (ty := .array .int) (C := "FourWordsModel") (T := tb_M) (N := 12) hx hb hts (hu _ um_M) ft_M fk_M fn_M hown hK hP hD hS 0 rfl rfl 1 (by decide) (hq mw_t461) (fun _ h9 => h9) rfl hin rfl (by decide +kernel) rfl rfl (Nat.le_of_ble_eq_true rfl) dc_M_init_18 (fun H locs hP hD hS => ?_)
  have hP : va_P (dC, dI) cs_3 [(h1, .inr (2, [.ref q8, .ref q16, .null, .null, .null, .null, .null, .null, .int 0, .int 0, .int 0, .null])), (q8, .inl (cB, 4096, .inl (fun _ => 0))), (q16, .inl (cI, 64, .inl (fun _ => 0)))] H := hP
  have hD : va_D A [(h1, .inr (2, [.ref q8, .ref q16, .null, .null, .null, .null, .null, .null, .int 0, .int 0, .int 0, .null])), (q8, .inl (cB, 4096, .inl (fun _ => 0))), (q16, .inl (cI, 64, .inl (fun _ => 0)))] := hD
  refine lv_aload_n hx hb dc_M_init_21 rfl (lv_at hl 0 rfl) ?_
  refine lv_bipush (v := 64) hx hb dc_M_init_22 (by decide) ?_
  refine gn_a (atype := .boolean) (ty := .boolean) (a0 := (64, .inl (fun _ => 0))) (N' := 64) hx hb rfl (hq mw_t38) hK hP hD hS hA 2 rfl (fun cA => vp_cell_i cA 64 (fun _ => 0)) (by decide) (nI_clamp (n := 64) (by decide)) (by decide) (Nat.le_of_ble_eq_true rfl) (Nat.le_of_ble_eq_true rfl) dc_M_init_24 (fun q24 H hP hD hS => ?_)
  have hP : va_P (dC, dI) cs_3 [(h1, .inr (2, [.ref q8, .ref q16, .null, .null, .null, .null, .null, .null, .int 0, .int 0, .int 0, .null])), (q8, .inl (cB, 4096, .inl (fun _ => 0))), (q16, .inl (cI, 64, .inl (fun _ => 0))), (q24, .inl (cZ, 64, .inl (fun _ => 0)))] H := hP
  have hD : va_D A [(h1, .inr (2, [.ref q8, .ref q16, .null, .null, .null, .null, .null, .null, .int 0, .int 0, .int 0, .null])), (q8, .inl (cB, 4096, .inl (fun _ => 0))), (q16, .inl (cI, 64, .inl (fun _ => 0))), (q24, .inl (cZ, 64, .inl (fun _ => 0)))] := hD
  refine W.widen (k := 3) (n := 4224) (Nat.le_of_ble_eq_true rfl) (Nat.le_of_ble_eq_true rfl) ?_
  refine va_putF (D := (dC, dI)) (ci := 2) (v := .ref q24) (ty := .array .boolean) (C := "FourWordsModel") (T := tb_M) (N := 12) hx hb hts (hu _ um_M) ft_M fk_M fn_M hown hK hP hD hS 0 rfl rfl 2 (by decide) (hq mw_t462) (fun _ h9 => h9) rfl hin rfl (by decide +kernel) rfl rfl (Nat.le_of_ble_eq_true rfl) dc_M_init_26 (fun H locs hP hD hS => ?_)
  have hP : va_P (dC, dI) cs_3 [(h1, .inr (2, [.ref q8, .ref q16, .ref q24, .null, .null, .null, .null, .null, .int 0, .int 0, .int 0, .null])), (q8, .inl (cB, 4096, .inl (fun _ => 0))), (q16, .inl (cI, 64, .inl (fun _ => 0))), (q24, .inl (cZ, 64, .inl (fun _ => 0)))] H := hP
  have hD : va_D A [(h1, .inr (2, [.ref q8, .ref q16, .ref q24, .null, .null, .null, .null, .null, .int 0, .int 0, .int 0, .null])), (q8, .inl (cB, 4096, .inl (fun _ => 0))), (q16, .inl (cI, 64, .inl (fun _ => 0))), (q24, .inl (cZ, 64, .inl (fun _ => 0)))] := hD
  refine lv_aload_n hx hb dc_M_init_29 rfl (lv_at hl 0 rfl) ?_
  refine lv_bipush (v := 64) hx hb dc_M_init_30 (by decide) ?_
  refine gn_a (atype := .byte) (ty := .byte) (a0 := (64, .inl (fun _ => 0))) (N' := 64) hx hb rfl (hq mw_t39) hK hP hD hS hA 3 rfl (fun cA => vp_cell_i cA 64 (fun _ => 0)) (by decide) (nI_clamp (n := 64) (by decide)) (by decide) (Nat.le_of_ble_eq_true rfl) (Nat.le_of_ble_eq_true rfl) dc_M_init_32 (fun q32 H hP hD hS => ?_)
  have hP : va_P (dC, dI) cs_3 [(h1, .inr (2, [.ref q8, .ref q16, .ref q24, .null, .null, .null, .null, .null, .int 0, .int 0, .int 0, .null])), (q8, .inl (cB, 4096, .inl (fun _ => 0))), (q16, .inl (cI, 64, .inl (fun _ => 0))), (q24, .inl (cZ, 64, .inl (fun _ => 0))), (q32, .inl (cB, 64, .inl (fun _ => 0)))] H := hP
  have hD : va_D A [(h1, .inr (2, [.ref q8, .ref q16, .ref q24, .null, .null, .null, .null, .null, .int 0, .int 0, .int 0, .null])), (q8, .inl (cB, 4096, .inl (fun _ => 0))), (q16, .inl (cI, 64, .inl (fun _ => 0))), (q24, .inl (cZ, 64, .inl (fun _ => 0))), (q32, .inl (cB, 64, .inl (fun _ => 0)))] := hD
  refine W.widen (k := 4) (n := 4288) (Nat.le_of_ble_eq_true rfl) (Nat.le_of_ble_eq_true rfl) ?_
  refine va_putF (D := (dC, dI)) (ci := 2) (v := .ref q32) (ty := .array .byte) (C := "FourWordsModel") (T := tb_M) (N := 12) hx hb hts (hu _ um_M) ft_M fk_M fn_M hown hK hP hD hS 0 rfl rfl 3 (by decide) (hq mw_t463) (fun _ h9 => h9) rfl hin rfl (by decide +kernel) rfl rfl (Nat.le_of_ble_eq_true rfl) dc_M_init_34 (fun H locs hP hD hS => ?_)
  have hP : va_P (dC, dI) cs_3 [(h1, .inr (2, [.ref q8, .ref q16, .ref q24, .ref q32, .null, .null, .null, .null, .int 0, .int 0, .int 0, .null])), (q8, .inl (cB, 4096, .inl (fun _ => 0))), (q16, .inl (cI, 64, .inl (fun _ => 0))), (q24, .inl (cZ, 64, .inl (fun _ => 0))), (q32, .inl (cB, 64, .inl (fun _ => 0)))] H := hP
  have hD : va_D A [(h1, .inr (2, [.ref q8, .ref q16, .ref q24, .ref q32, .null, .null, .null, .null, .int 0, .int 0, .int 0, .null])), (q8, .inl (cB, 4096, .inl (fun _ => 0))), (q16, .inl (cI, 64, .inl (fun _ => 0))), (q24, .inl (cZ, 64, .inl (fun _ => 0))), (q32, .inl (cB, 64, .inl (fun _ => 0)))] := hD
  refine lv_aload_n hx hb dc_M_init_37 rfl (lv_at hl 0 rfl) ?_
  refine lv_bipush (v := 64) hx hb dc_M_init_38 (by decide) ?_
  refine gn_a (atype := .byte) (ty := .byte) (a0 := (64, .inl (fun _ => 0))) (N' := 64) hx hb rfl (hq mw_t39) hK hP hD hS hA 3 rfl (fun cA => vp_cell_i cA 64 (fun _ => 0)) (by decide) (nI_clamp (n := 64) (by decide)) (by decide) (Nat.le_of_ble_eq_true rfl) (Nat.le_of_ble_eq_true rfl) dc_M_init_40 (fun q40 H hP hD hS => ?_)
  have hP : va_P (dC, dI) cs_3 [(h1, .inr (2, [.ref q8, .ref q16, .ref q24, .ref q32, .null, .null, .null, .null, .int 0, .int 0, .int 0, .null])), (q8, .inl (cB, 4096, .inl (fun _ => 0))), (q16, .inl (cI, 64, .inl (fun _ => 0))), (q24, .inl (cZ, 64, .inl (fun _ => 0))), (q32, .inl (cB, 64, .inl (fun _ => 0))), (q40, .inl (cB, 64, .inl (fun _ => 0)))] H := hP
  have hD : va_D A [(h1, .inr (2, [.ref q8, .ref q16, .ref q24, .ref q32, .null, .null, .null, .null, .int 0, .int 0, .int 0, .null])), (q8, .inl (cB, 4096, .inl (fun _ => 0))), (q16, .inl (cI, 64, .inl (fun _ => 0))), (q24, .inl (cZ, 64, .inl (fun _ => 0))), (q32, .inl (cB, 64, .inl (fun _ => 0))), (q40, .inl (cB, 64, .inl (fun _ => 0)))] := hD
  refine W.widen (k := 5) (n := 4352) (Nat.le_of_ble_eq_true rfl) (Nat.le_of_ble_eq_true rfl) ?_
  refine va_putF (D := (dC, dI)) (ci := 2) (v := .ref q40) (ty := .array .byte) (C := "FourWordsModel") (T := tb_M) (N := 12) hx hb hts (hu _ um_M) ft_M fk_M fn_M hown hK hP hD hS 0 rfl rfl 4 (by decide) (hq mw_t464) (fun _ h9 => h9) rfl hin rfl (by decide +kernel) rfl rfl (Nat.le_of_ble_eq_true rfl) dc_M_init_42 (fun H locs hP hD hS => ?_)
  have hP : va_P (dC, dI) cs_3 [(h1, .inr (2, [.ref q8, .ref q16, .ref q24, .ref q32, .ref q40, .null, .null, .null, .int 0, .int 0, .int 0, .null])), (q8, .inl (cB, 4096, .inl (fun _ => 0))), (q16, .inl (cI, 64, .inl (fun _ => 0))), (q24, .inl (cZ, 64, .inl (fun _ => 0))), (q32, .inl (cB, 64, .inl (fun _ => 0))), (q40, .inl (cB, 64, .inl (fun _ => 0)))] H := hP
  have hD : va_D A [(h1, .inr (2, [.ref q8, .ref q16, .ref q24, .ref q32, .ref q40, .null, .null, .null, .int 0, .int 0, .int 0, .null])), (q8, .inl (cB, 4096, .inl (fun _ => 0))), (q16, .inl (cI, 64, .inl (fun _ => 0))), (q24, .inl (cZ, 64, .inl (fun _ => 0))), (q32, .inl (cB, 64, .inl (fun _ => 0))), (q40, .inl (cB, 64, .inl (fun _ => 0)))] := hD
  refine lv_aload_n hx hb dc_M_init_45 rfl (lv_at hl 0 rfl) ?_
  refine lv_bipush (v := 64) hx hb dc_M_init_46 (by decide) ?_
  refine gn_a (atype := .byte) (ty := .byte) (a0 := (64, .inl (fun _ => 0))) (N' := 64) hx hb rfl (hq mw_t39) hK hP hD hS hA 3 rfl (fun cA => vp_cell_i cA 64 (fun _ => 0)) (by decide) (nI_clamp (n := 64) (by decide)) (by decide) (Nat.le_of_ble_eq_true rfl) (Nat.le_of_ble_eq_true rfl) dc_M_init_48 (fun q48 H hP hD hS => ?_)
  have hP : va_P (dC, dI) cs_3 [(h1, .inr (2, [.ref q8, .ref q16, .ref q24, .ref q32, .ref q40, .null, .null, .null, .int 0, .int 0, .int 0, .null])), (q8, .inl (cB, 4096, .inl (fun _ => 0))), (q16, .inl (cI, 64, .inl (fun _ => 0))), (q24, .inl (cZ, 64, .inl (fun _ => 0))), (q32, .inl (cB, 64, .inl (fun _ => 0))), (q40, .inl (cB, 64, .inl (fun _ => 0))), (q48, .inl (cB, 64, .inl (fun _ => 0)))] H := hP
  have hD : va_D A [(h1, .inr (2, [.ref q8, .ref q16, .ref q24, .ref q32, .ref q40, .null, .null, .null, .int 0, .int 0, .int 0, .null])), (q8, .inl (cB, 4096, .inl (fun _ => 0))), (q16, .inl (cI, 64, .inl (fun _ => 0))), (q24, .inl (cZ, 64, .inl (fun _ => 0))), (q32, .inl (cB, 64, .inl (fun _ => 0))), (q40, .inl (cB, 64, .inl (fun _ => 0))), (q48, .inl (cB, 64, .inl (fun _ => 0)))] := hD
  refine W.widen (k := 6) (n := 4416) (Nat.le_of_ble_eq_true rfl) (Nat.le_of_ble_eq_true rfl) ?_
  refine va_putF (D := (dC, dI)) (ci := 2) (v := .ref q48) (ty := .array .byte) (C := "FourWordsModel") (T := tb_M) (N := 12) hx hb hts (hu _ um_M) ft_M fk_M fn_M hown hK hP hD hS 0 rfl rfl 5 (by decide) (hq mw_t465) (fun _ h9 => h9) rfl hin rfl (by decide +kernel) rfl rfl (Nat.le_of_ble_eq_true rfl) dc_M_init_50 (fun H locs hP hD hS => ?_)
  have hP : va_P (dC, dI) cs_3 [(h1, .inr (2, [.ref q8, .ref q16, .ref q24, .ref q32, .ref q40, .ref q48, .null, .null, .int 0, .int 0, .int 0, .null])), (q8, .inl (cB, 4096, .inl (fun _ => 0))), (q16, .inl (cI, 64, .inl (fun _ => 0))), (q24, .inl (cZ, 64, .inl (fun _ => 0))), (q32, .inl (cB, 64, .inl (fun _ => 0))), (q40, .inl (cB, 64, .inl (fun _ => 0))), (q48, .inl (cB, 64, .inl (fun _ => 0)))] H := hP
  have hD : va_D A [(h1, .inr (2, [.ref q8, .ref q16, .ref q24, .ref q32, .ref q40, .ref q48, .null, .null, .int 0, .int 0, .int 0, .null])), (q8, .inl (cB, 4096, .inl (fun _ => 0))), (q16, .inl (cI, 64, .inl (fun _ => 0))), (q24, .inl (cZ, 64, .inl (fun _ => 0))), (q32, .inl (cB, 64, .inl (fun _ => 0))), (q40, .inl (cB, 64, .inl (fun _ => 0))), (q48, .inl (cB, 64, .inl (fun _ => 0)))] := hD
  refine lv_aload_n hx hb dc_M_init_53 rfl (lv_at hl 0 rfl) ?_
  refine lv_bipush (v := 65) hx hb dc_M_init_54 (by decide) ?_
  refine gn_a (atype := .byte) (ty := .byte) (a0 := (65, .inl (fun _ => 0))) (N' := 65) hx hb rfl (hq mw_t39) hK hP hD hS hA 3 rfl (fun cA => vp_cell_i cA 65 (fun _ => 0)) (by decide) (nI_clamp (n := 65) (by decide)) (by decide) (Nat.le_of_ble_eq_true rfl) (Nat.le_of_ble_eq_true rfl) dc_M_init_56 (fun q56 H hP hD hS => ?_)
  have hP : va_P (dC, dI) cs_3 [(h1, .inr (2, [.ref q8, .ref q16, .ref q24, .ref q32, .ref q40, .ref q48, .null, .null, .int 0, .int 0, .int 0, .null])), (q8, .inl (cB, 4096, .inl (fun _ => 0))), (q16, .inl (cI, 64, .inl (fun _ => 0))), (q24, .inl (cZ, 64, .inl (fun _ => 0))), (q32, .inl (cB, 64, .inl (fun _ => 0))), (q40, .inl (cB, 64, .inl (fun _ => 0))), (q48, .inl (cB, 64, .inl (fun _ => 0))), (q56, .inl (cB, 65, .inl (fun _ => 0)))] H := hP
  have hD : va_D A [(h1, .inr (2, [.ref q8, .ref q16, .ref q24, .ref q32, .ref q40, .ref q48, .null, .null, .int 0, .int 0, .int 0, .null])), (q8, .inl (cB, 4096, .inl (fun _ => 0))), (q16, .inl (cI, 64, .inl (fun _ => 0))), (q24, .inl (cZ, 64, .inl (fun _ => 0))), (q32, .inl (cB, 64, .inl (fun _ => 0))), (q40, .inl (cB, 64, .inl (fun _ => 0))), (q48, .inl (cB, 64, .inl (fun _ => 0))), (q56, .inl (cB, 65, .inl (fun _ => 0)))] := hD
  refine W.widen (k := 7) (n := 4481) (Nat.le_of_ble_eq_true rfl) (Nat.le_of_ble_eq_true rfl) ?_
  refine va_putF (D := (dC, dI)) (ci := 2) (v := .ref q56) (ty := .array .byte) (C := "FourWordsModel") (T := tb_M) (N := 12) hx hb hts (hu _ um_M) ft_M fk_M fn_M hown hK hP hD hS 0 rfl rfl 6 (by decide) (hq mw_t466) (fun _ h9 => h9) rfl hin rfl (by decide +kernel) rfl rfl (Nat.le_of_ble_eq_true rfl) dc_M_init_58 (fun H locs hP hD hS => ?_)
  have hP : va_P (dC, dI) cs_3 [(h1, .inr (2, [.ref q8, .ref q16, .ref q24, .ref q32, .ref q40, .ref q48, .ref q56, .null, .int 0, .int 0, .int 0, .null])), (q8, .inl (cB, 4096, .inl (fun _ => 0))), (q16, .inl (cI, 64, .inl (fun _ => 0))), (q24, .inl (cZ, 64, .inl (fun _ => 0))), (q32, .inl (cB, 64, .inl (fun _ => 0))), (q40, .inl (cB, 64, .inl (fun _ => 0))), (q48, .inl (cB, 64, .inl (fun _ => 0))), (q56, .inl (cB, 65, .inl (fun _ => 0)))] H := hP
  have hD : va_D A [(h1, .inr (2, [.ref q8, .ref q16, .ref q24, .ref q32, .ref q40, .ref q48, .ref q56, .null, .int 0, .int 0, .int 0, .null])), (q8, .inl (cB, 4096, .inl (fun _ => 0))), (q16, .inl (cI, 64, .inl (fun _ => 0))), (q24, .inl (cZ, 64, .inl (fun _ => 0))), (q32, .inl (cB, 64, .inl (fun _ => 0))), (q40, .inl (cB, 64, .inl (fun _ => 0))), (q48, .inl (cB, 64, .inl (fun _ => 0))), (q56, .inl (cB, 65, .inl (fun _ => 0)))] := hD
  refine lv_aload_n hx hb dc_M_init_61 rfl (lv_at hl 0 rfl) ?_
  refine lv_bipush (v := 80) hx hb dc_M_init_62 (by decide) ?_
  refine gn_a (atype := .byte) (ty := .byte) (a0 := (80, .inl (fun _ => 0))) (N' := 80) hx hb rfl (hq mw_t39) hK hP hD hS hA 3 rfl (fun cA => vp_cell_i cA 80 (fun _ => 0)) (by decide) (nI_clamp (n := 80) (by decide)) (by decide) (Nat.le_of_ble_eq_true rfl) (Nat.le_of_ble_eq_true rfl) dc_M_init_64 (fun q64 H hP hD hS => ?_)
  have hP : va_P (dC, dI) cs_3 [(h1, .inr (2, [.ref q8, .ref q16, .ref q24, .ref q32, .ref q40, .ref q48, .ref q56, .null, .int 0, .int 0, .int 0, .null])), (q8, .inl (cB, 4096, .inl (fun _ => 0))), (q16, .inl (cI, 64, .inl (fun _ => 0))), (q24, .inl (cZ, 64, .inl (fun _ => 0))), (q32, .inl (cB, 64, .inl (fun _ => 0))), (q40, .inl (cB, 64, .inl (fun _ => 0))), (q48, .inl (cB, 64, .inl (fun _ => 0))), (q56, .inl (cB, 65, .inl (fun _ => 0))), (q64, .inl (cB, 80, .inl (fun _ => 0)))] H := hP
  have hD : va_D A [(h1, .inr (2, [.ref q8, .ref q16, .ref q24, .ref q32, .ref q40, .ref q48, .ref q56, .null, .int 0, .int 0, .int 0, .null])), (q8, .inl (cB, 4096, .inl (fun _ => 0))), (q16, .inl (cI, 64, .inl (fun _ => 0))), (q24, .inl (cZ, 64, .inl (fun _ => 0))), (q32, .inl (cB, 64, .inl (fun _ => 0))), (q40, .inl (cB, 64, .inl (fun _ => 0))), (q48, .inl (cB, 64, .inl (fun _ => 0))), (q56, .inl (cB, 65, .inl (fun _ => 0))), (q64, .inl (cB, 80, .inl (fun _ => 0)))] := hD
  refine W.widen (k := 8) (n := 4561) (Nat.le_of_ble_eq_true rfl) (Nat.le_of_ble_eq_true rfl) ?_
  refine va_putF (D := (dC, dI)) (ci := 2) (v := .ref q64) (ty := .array .byte) (C := "FourWordsModel") (T := tb_M) (N := 12) hx hb hts (hu _ um_M) ft_M fk_M fn_M hown hK hP hD hS 0 rfl rfl 7 (by decide) (hq mw_t467) (fun _ h9 => h9) rfl hin rfl (by decide +kernel) rfl rfl (Nat.le_of_ble_eq_true rfl) dc_M_init_66 (fun H locs hP hD hS => ?_)
  have hP : va_P (dC, dI) cs_3 [(h1, .inr (2, [.ref q8, .ref q16, .ref q24, .ref q32, .ref q40, .ref q48, .ref q56, .ref q64, .int 0, .int 0, .int 0, .null])), (q8, .inl (cB, 4096, .inl (fun _ => 0))), (q16, .inl (cI, 64, .inl (fun _ => 0))), (q24, .inl (cZ, 64, .inl (fun _ => 0))), (q32, .inl (cB, 64, .inl (fun _ => 0))), (q40, .inl (cB, 64, .inl (fun _ => 0))), (q48, .inl (cB, 64, .inl (fun _ => 0))), (q56, .inl (cB, 65, .inl (fun _ => 0))), (q64, .inl (cB, 80, .inl (fun _ => 0)))] H := hP
  have hD : va_D A [(h1, .inr (2, [.ref q8, .ref q16, .ref q24, .ref q32, .ref q40, .ref q48, .ref q56, .ref q64, .int 0, .int 0, .int 0, .null])), (q8, .inl (cB, 4096, .inl (fun _ => 0))), (q16, .inl (cI, 64, .inl (fun _ => 0))), (q24, .inl (cZ, 64, .inl (fun _ => 0))), (q32, .inl (cB, 64, .inl (fun _ => 0))), (q40, .inl (cB, 64, .inl (fun _ => 0))), (q48, .inl (cB, 64, .inl (fun _ => 0))), (q56, .inl (cB, 65, .inl (fun _ => 0))), (q64, .inl (cB, 80, .inl (fun _ => 0)))] := hD
  refine lv_aload_n hx hb dc_M_init_69 rfl (lv_at hl 0 rfl) ?_
  refine lv_bipush (v := 24) hx hb dc_M_init_70 (by decide) ?_
  refine gn_a (atype := .byte) (ty := .byte) (a0 := (24, .inl (fun _ => 0))) (N' := 24) hx hb rfl (hq mw_t39) hK hP hD hS hA 3 rfl (fun cA => vp_cell_i cA 24 (fun _ => 0)) (by decide) (nI_clamp (n := 24) (by decide)) (by decide) (Nat.le_of_ble_eq_true rfl) (Nat.le_of_ble_eq_true rfl) dc_M_init_72 (fun q72 H hP hD hS => ?_)
  have hP : va_P (dC, dI) cs_3 [(h1, .inr (2, [.ref q8, .ref q16, .ref q24, .ref q32, .ref q40, .ref q48, .ref q56, .ref q64, .int 0, .int 0, .int 0, .null])), (q8, .inl (cB, 4096, .inl (fun _ => 0))), (q16, .inl (cI, 64, .inl (fun _ => 0))), (q24, .inl (cZ, 64, .inl (fun _ => 0))), (q32, .inl (cB, 64, .inl (fun _ => 0))), (q40, .inl (cB, 64, .inl (fun _ => 0))), (q48, .inl (cB, 64, .inl (fun _ => 0))), (q56, .inl (cB, 65, .inl (fun _ => 0))), (q64, .inl (cB, 80, .inl (fun _ => 0))), (q72, .inl (cB, 24, .inl (fun _ => 0)))] H := hP
  have hD : va_D A [(h1, .inr (2, [.ref q8, .ref q16, .ref q24, .ref q32, .ref q40, .ref q48, .ref q56, .ref q64, .int 0, .int 0, .int 0, .null])), (q8, .inl (cB, 4096, .inl (fun _ => 0))), (q16, .inl (cI, 64, .inl (fun _ => 0))), (q24, .inl (cZ, 64, .inl (fun _ => 0))), (q32, .inl (cB, 64, .inl (fun _ => 0))), (q40, .inl (cB, 64, .inl (fun _ => 0))), (q48, .inl (cB, 64, .inl (fun _ => 0))), (q56, .inl (cB, 65, .inl (fun _ => 0))), (q64, .inl (cB, 80, .inl (fun _ => 0))), (q72, .inl (cB, 24, .inl (fun _ => 0)))] := hD
  refine W.widen (k := 9) (n := 4585) (Nat.le_of_ble_eq_true rfl) (Nat.le_of_ble_eq_true rfl) ?_
  refine va_putF (D := (dC, dI)) (ci := 2) (v := .ref q72) (ty := .array .byte) (C := "FourWordsModel") (T := tb_M) (N := 12) hx hb hts (hu _ um_M) ft_M fk_M fn_M hown hK hP hD hS 0 rfl rfl 11 (by decide) (hq mw_t471) (fun _ h9 => h9) rfl hin rfl (by decide +kernel) rfl rfl (Nat.le_of_ble_eq_true rfl) dc_M_init_74 (fun H locs hP hD hS => ?_)
  have hP : va_P (dC, dI) cs_3 [(h1, .inr (2, [.ref q8, .ref q16, .ref q24, .ref q32, .ref q40, .ref q48, .ref q56, .ref q64, .int 0, .int 0, .int 0, .ref q72])), (q8, .inl (cB, 4096, .inl (fun _ => 0))), (q16, .inl (cI, 64, .inl (fun _ => 0))), (q24, .inl (cZ, 64, .inl (fun _ => 0))), (q32, .inl (cB, 64, .inl (fun _ => 0))), (q40, .inl (cB, 64, .inl (fun _ => 0))), (q48, .inl (cB, 64, .inl (fun _ => 0))), (q56, .inl (cB, 65, .inl (fun _ => 0))), (q64, .inl (cB, 80, .inl (fun _ => 0))), (q72, .inl (cB, 24, .inl (fun _ => 0)))] H := hP
  have hD : va_D A [(h1, .inr (2, [.ref q8, .ref q16, .ref q24, .ref q32, .ref q40, .ref q48, .ref q56, .ref q64, .int 0, .int 0, .int 0, .ref q72])), (q8, .inl (cB, 4096, .inl (fun _ => 0))), (q16, .inl (cI, 64, .inl (fun _ => 0))), (q24, .inl (cZ, 64, .inl (fun _ => 0))), (q32, .inl (cB, 64, .inl (fun _ => 0))), (q40, .inl (cB, 64, .inl (fun _ => 0))), (q48, .inl (cB, 64, .inl (fun _ => 0))), (q56, .inl (cB, 65, .inl (fun _ => 0))), (q64, .inl (cB, 80, .inl (fun _ => 0))), (q72, .inl (cB, 24, .inl (fun _ => 0)))] := hD
  exact W.vret hx hb hr (fun t ht hW => ⟨⟨(), rfl, trivial, q8, q16, q24, q32, q40, q48, q56, q64, q72, by rw [ht]; exact hP, va_K.moved hW.alike hK, hD⟩, hS.F ht⟩) hS.2.2 dc_M_init_77

/-! calls of methods that may throw, from a method with handlers -/
abbrev wd_H (h0 qO qU qW qG qN qL qo : Nat) (cJ cI cZ cB : ClassId) (fO : (Nat → Int64)) (fU : (Nat → Int64)) (fW : (Nat → Int32)) (fG : (Nat → Int32)) (fL : (Nat → Int32)) (len : Int32) (size : Int32) (fo : (Nat → Int64)) : va_W := [(h0, .inr (1, [.ref qO, .ref qU, .ref qW, .ref qG, .ref qN, .int size])), (qO, .inl (cJ, 64, .inr (.inl fO))), (qU, .inl (cJ, 64, .inr (.inl fU))), (qW, .inl (cI, 64, .inl fW)), (qG, .inl (cZ, 64, .inl fG)), (qN, .inr (0, [.ref qL, .int len])), (qL, .inl (cB, 64, .inl fL)), (qo, .inl (cJ, 1, .inr (.inl fo)))]
abbrev qv_H (dC : Nat → ClassId) (dI : Nat → Nat → Nat) (cJ cI cZ cB : ClassId) (h0 qO qU qW qG qN qL qo : Nat) (post : (Nat → Int64) → (Nat → Int64) → (Nat → Int32) → (Nat → Int32) → (Nat → Int32) → Int32 → Int32 → (Nat → Int64) → Prop) (A : Nat → Prop) : Array Value → State → Outcome → State → Prop := va_Qv (fun u : (Nat → Int64) × (Nat → Int64) × (Nat → Int32) × (Nat → Int32) × (Nat → Int32) × Int32 × Int32 × (Nat → Int64) => post u.1 u.2.1 u.2.2.1 u.2.2.2.1 u.2.2.2.2.1 u.2.2.2.2.2.1 u.2.2.2.2.2.2.1 u.2.2.2.2.2.2.2) (qc_W (dC, dI) (ty_4 cJ cI cZ cB) (fun u : (Nat → Int64) × (Nat → Int64) × (Nat → Int32) × (Nat → Int32) × (Nat → Int32) × Int32 × Int32 × (Nat → Int64) => (wd_H h0 qO qU qW qG qN qL qo cJ cI cZ cB u.1 u.2.1 u.2.2.1 u.2.2.2.1 u.2.2.2.2.1 u.2.2.2.2.2.1 u.2.2.2.2.2.2.1 u.2.2.2.2.2.2.2)) A) A
abbrev qi_H (dC : Nat → ClassId) (dI : Nat → Nat → Nat) (cJ cI cZ cB : ClassId) (h0 qO qU qW qG qN qL qo : Nat) (post : Int32 → (Nat → Int64) → (Nat → Int64) → (Nat → Int32) → (Nat → Int32) → (Nat → Int32) → Int32 → Int32 → (Nat → Int64) → Prop) (A : Nat → Prop) : Array Value → State → Outcome → State → Prop := va_Qi (fun (r : Int32) (u : (Nat → Int64) × (Nat → Int64) × (Nat → Int32) × (Nat → Int32) × (Nat → Int32) × Int32 × Int32 × (Nat → Int64)) => post r u.1 u.2.1 u.2.2.1 u.2.2.2.1 u.2.2.2.2.1 u.2.2.2.2.2.1 u.2.2.2.2.2.2.1 u.2.2.2.2.2.2.2) (qc_W (dC, dI) (ty_4 cJ cI cZ cB) (fun u : (Nat → Int64) × (Nat → Int64) × (Nat → Int32) × (Nat → Int32) × (Nat → Int32) × Int32 × Int32 × (Nat → Int64) => (wd_H h0 qO qU qW qG qN qL qo cJ cI cZ cB u.1 u.2.1 u.2.2.1 u.2.2.2.1 u.2.2.2.2.1 u.2.2.2.2.2.1 u.2.2.2.2.2.2.1 u.2.2.2.2.2.2.2)) A) A
abbrev ql_H (dC : Nat → ClassId) (dI : Nat → Nat → Nat) (cJ cI cZ cB : ClassId) (h0 qO qU qW qG qN qL qo : Nat) (post : Int64 → (Nat → Int64) → (Nat → Int64) → (Nat → Int32) → (Nat → Int32) → (Nat → Int32) → Int32 → Int32 → (Nat → Int64) → Prop) (A : Nat → Prop) : Array Value → State → Outcome → State → Prop := va_Ql (fun (r : Int64) (u : (Nat → Int64) × (Nat → Int64) × (Nat → Int32) × (Nat → Int32) × (Nat → Int32) × Int32 × Int32 × (Nat → Int64)) => post r u.1 u.2.1 u.2.2.1 u.2.2.2.1 u.2.2.2.2.1 u.2.2.2.2.2.1 u.2.2.2.2.2.2.1 u.2.2.2.2.2.2.2) (qc_W (dC, dI) (ty_4 cJ cI cZ cB) (fun u : (Nat → Int64) × (Nat → Int64) × (Nat → Int32) × (Nat → Int32) × (Nat → Int32) × Int32 × Int32 × (Nat → Int64) => (wd_H h0 qO qU qW qG qN qL qo cJ cI cZ cB u.1 u.2.1 u.2.2.1 u.2.2.2.1 u.2.2.2.2.1 u.2.2.2.2.2.1 u.2.2.2.2.2.2.1 u.2.2.2.2.2.2.2)) A) A
abbrev qx_H (dC : Nat → ClassId) (dI : Nat → Nat → Nat) (cJ cI cZ cB : ClassId) (h0 qO qU qW qG qN qL qo : Nat) (px : String → (Nat → Int64) → (Nat → Int64) → (Nat → Int32) → (Nat → Int32) → (Nat → Int32) → Int32 → Int32 → (Nat → Int64) → Prop) (A : Nat → Prop) : String → State → State → Prop := vx_X (fun u : String × ((Nat → Int64) × (Nat → Int64) × (Nat → Int32) × (Nat → Int32) × (Nat → Int32) × Int32 × Int32 × (Nat → Int64)) => px u.1 u.2.1 u.2.2.1 u.2.2.2.1 u.2.2.2.2.1 u.2.2.2.2.2.1 u.2.2.2.2.2.2.1 u.2.2.2.2.2.2.2.1 u.2.2.2.2.2.2.2.2) (bx_W (dC, dI) (ty_4 cJ cI cZ cB) (fun u : String × ((Nat → Int64) × (Nat → Int64) × (Nat → Int32) × (Nat → Int32) × (Nat → Int32) × Int32 × Int32 × (Nat → Int64)) => (wd_H h0 qO qU qW qG qN qL qo cJ cI cZ cB u.2.1 u.2.2.1 u.2.2.2.1 u.2.2.2.2.1 u.2.2.2.2.2.1 u.2.2.2.2.2.2.1 u.2.2.2.2.2.2.2.1 u.2.2.2.2.2.2.2.2)) A) A
abbrev pc_H (D : va_G) (tys : List (ClassId × FieldType)) (ws : va_W) (sz : Nat) (U : State) : Prop := pc_Z D tys ws sz U ∧ va_Nc "java/lang/IllegalStateException" "java/lang/IllegalArgumentException" U
section FWH
variable {p : Program} {l : Launch} {e : Env} {R : Room} {s : State} {m : MethodId} {args : Array Value} {below : List Frame} {meth : Method} {c : Code} {H : Heap} {locs : List Loc} {cells slots : Nat} {Q : State → Prop}
variable {pc : Nat} {ls : Array Slot} {rest st0 : List Value} {a : Array Value} {A : Nat → Prop} {H0 : Heap} {mc ms : Nat} {D : va_G} {tys : List (ClassId × FieldType)} {ws wc wr : va_W}
theorem gx_v {S : Type} {post : S → Prop} {px : String × S → Prop} {w1 : S → va_W} {w2 : String × S → va_W} (hr : vx_Run p l e R s m args below meth c H locs cells slots mc ms (F0 m pc ls st0) rest (va_Qv post (qc_W D tys w1 (va_A wc H.size)) (va_A wc H.size) a) (vx_X px (bx_W D tys w2 (va_A wc H.size)) (va_A wc H.size)) (va_A wc H.size))
    (hP : va_P D cs_3 ws H) (hD : va_D A ws) (hS : va_S A H0 H locs) (hA : ∀ q, H0.size ≤ q → A q) (isC isR : List Nat) (hC : isC.map (fun i => ws[i]?) = wc.map some) (hR : isR.map (fun i => ws[i]?) = wr.map some) (hn : va_nd isR = true) (hdis : ∀ i ∈ isR, i ∉ isC)
    (kk : ∀ (u : S) (H1 : Heap) (locs1 : List Loc), post u → va_P D cs_3 (wr ++ w1 u) H1 → va_D A (wr ++ w1 u) → va_S A H0 H1 locs1 → W p l e R s m args below meth c H1 locs1 (cells + mc) (slots + ms) Q (F0 m (pc + 3) ls (rest)))
    (kx : ∀ (E : String) (u : S) (q9 : Addr) (ce : Cell) (H1 : Heap) (locs1 : List Loc), px (E, u) → va_P D cs_3 (wr ++ w2 (E, u)) H1 → va_D A (wr ++ w2 (E, u)) → va_S A H0 H1 locs1 → H1[q9]? = some ce → ce.vm = .none → s.vm.findClass E = some ce.cls → vx_W p l e R s m args below meth c H1 locs1 (cells + mc) (slots + ms) Q (F0 m pc ls rest) q9) : W p l e R s m args below meth c H locs cells slots Q (F0 m pc ls st0) := by
  have hF := va_free (wc := wc) hD hS hA isC hC
  refine vx_callv hr hS (fun q _ h => hF q h) hF (fun q _ h => hF q h) (fun E ce q9 u9 t H1 locs1 ht hvm hp hB hz hk hS1 hce hcv hcl => ?_) (fun u t H1 locs1 ht hvm hp hB hz hk hS1 => ?_)
  · obtain ⟨hE0, hP1, hK1, hD1⟩ := hB
    rw [ht] at hP1
    obtain ⟨hP2, hD2⟩ := va_join hP hD isC isR hC hR hn hdis hk hF hP1 hD1
    obtain ⟨E1, u1⟩ := u9
    have hE0 : E = E1 := hE0
    subst hE0
    exact kx E u1 q9 ce H1 locs1 hp hP2 hD2 hS1 hce hcv hcl
  · obtain ⟨hP1, hK1, hD1⟩ := hB
    rw [ht] at hP1
    obtain ⟨hP2, hD2⟩ := va_join hP hD isC isR hC hR hn hdis hk hF hP1 hD1
    exact kk u H1 locs1 hp hP2 hD2 hS1
theorem gx_i {S : Type} {post : Int32 → S → Prop} {px : String × S → Prop} {w1 : S → va_W} {w2 : String × S → va_W} (hr : vx_Run p l e R s m args below meth c H locs cells slots mc ms (F0 m pc ls st0) rest (va_Qi post (qc_W D tys w1 (va_A wc H.size)) (va_A wc H.size) a) (vx_X px (bx_W D tys w2 (va_A wc H.size)) (va_A wc H.size)) (va_A wc H.size))
    (hP : va_P D cs_3 ws H) (hD : va_D A ws) (hS : va_S A H0 H locs) (hA : ∀ q, H0.size ≤ q → A q) (isC isR : List Nat) (hC : isC.map (fun i => ws[i]?) = wc.map some) (hR : isR.map (fun i => ws[i]?) = wr.map some) (hn : va_nd isR = true) (hdis : ∀ i ∈ isR, i ∉ isC)
    (kk : ∀ (r : Int32) (u : S) (H1 : Heap) (locs1 : List Loc), post r u → va_P D cs_3 (wr ++ w1 u) H1 → va_D A (wr ++ w1 u) → va_S A H0 H1 locs1 → W p l e R s m args below meth c H1 locs1 (cells + mc) (slots + ms) Q (F0 m (pc + 3) ls (.int r :: rest)))
    (kx : ∀ (E : String) (u : S) (q9 : Addr) (ce : Cell) (H1 : Heap) (locs1 : List Loc), px (E, u) → va_P D cs_3 (wr ++ w2 (E, u)) H1 → va_D A (wr ++ w2 (E, u)) → va_S A H0 H1 locs1 → H1[q9]? = some ce → ce.vm = .none → s.vm.findClass E = some ce.cls → vx_W p l e R s m args below meth c H1 locs1 (cells + mc) (slots + ms) Q (F0 m pc ls rest) q9) : W p l e R s m args below meth c H locs cells slots Q (F0 m pc ls st0) := by
  have hF := va_free (wc := wc) hD hS hA isC hC
  refine vx_calli hr hS (fun q _ h => hF q h) hF (fun q _ h => hF q h) (fun E ce q9 u9 t H1 locs1 ht hvm hp hB hz hk hS1 hce hcv hcl => ?_) (fun r u t H1 locs1 ht hvm hp hB hz hk hS1 => ?_)
  · obtain ⟨hE0, hP1, hK1, hD1⟩ := hB
    rw [ht] at hP1
    obtain ⟨hP2, hD2⟩ := va_join hP hD isC isR hC hR hn hdis hk hF hP1 hD1
    obtain ⟨E1, u1⟩ := u9
    have hE0 : E = E1 := hE0
    subst hE0
    exact kx E u1 q9 ce H1 locs1 hp hP2 hD2 hS1 hce hcv hcl
  · obtain ⟨hP1, hK1, hD1⟩ := hB
    rw [ht] at hP1
    obtain ⟨hP2, hD2⟩ := va_join hP hD isC isR hC hR hn hdis hk hF hP1 hD1
    exact kk r u H1 locs1 hp hP2 hD2 hS1
theorem gx_l {S : Type} {post : Int64 → S → Prop} {px : String × S → Prop} {w1 : S → va_W} {w2 : String × S → va_W} (hr : vx_Run p l e R s m args below meth c H locs cells slots mc ms (F0 m pc ls st0) rest (va_Ql post (qc_W D tys w1 (va_A wc H.size)) (va_A wc H.size) a) (vx_X px (bx_W D tys w2 (va_A wc H.size)) (va_A wc H.size)) (va_A wc H.size))
    (hP : va_P D cs_3 ws H) (hD : va_D A ws) (hS : va_S A H0 H locs) (hA : ∀ q, H0.size ≤ q → A q) (isC isR : List Nat) (hC : isC.map (fun i => ws[i]?) = wc.map some) (hR : isR.map (fun i => ws[i]?) = wr.map some) (hn : va_nd isR = true) (hdis : ∀ i ∈ isR, i ∉ isC)
    (kk : ∀ (r : Int64) (u : S) (H1 : Heap) (locs1 : List Loc), post r u → va_P D cs_3 (wr ++ w1 u) H1 → va_D A (wr ++ w1 u) → va_S A H0 H1 locs1 → W p l e R s m args below meth c H1 locs1 (cells + mc) (slots + ms) Q (F0 m (pc + 3) ls (.long r :: rest)))
    (kx : ∀ (E : String) (u : S) (q9 : Addr) (ce : Cell) (H1 : Heap) (locs1 : List Loc), px (E, u) → va_P D cs_3 (wr ++ w2 (E, u)) H1 → va_D A (wr ++ w2 (E, u)) → va_S A H0 H1 locs1 → H1[q9]? = some ce → ce.vm = .none → s.vm.findClass E = some ce.cls → vx_W p l e R s m args below meth c H1 locs1 (cells + mc) (slots + ms) Q (F0 m pc ls rest) q9) : W p l e R s m args below meth c H locs cells slots Q (F0 m pc ls st0) := by
  have hF := va_free (wc := wc) hD hS hA isC hC
  refine vx_calll hr hS (fun q _ h => hF q h) hF (fun q _ h => hF q h) (fun E ce q9 u9 t H1 locs1 ht hvm hp hB hz hk hS1 hce hcv hcl => ?_) (fun r u t H1 locs1 ht hvm hp hB hz hk hS1 => ?_)
  · obtain ⟨hE0, hP1, hK1, hD1⟩ := hB
    rw [ht] at hP1
    obtain ⟨hP2, hD2⟩ := va_join hP hD isC isR hC hR hn hdis hk hF hP1 hD1
    obtain ⟨E1, u1⟩ := u9
    have hE0 : E = E1 := hE0
    subst hE0
    exact kx E u1 q9 ce H1 locs1 hp hP2 hD2 hS1 hce hcv hcl
  · obtain ⟨hP1, hK1, hD1⟩ := hB
    rw [ht] at hP1
    obtain ⟨hP2, hD2⟩ := va_join hP hD isC isR hC hR hn hdis hk hF hP1 hD1
    exact kk r u H1 locs1 hp hP2 hD2 hS1
theorem ph_W {As : List Value} (hP : va_P D cs_3 wc H) (hK : va_K D cs_3 tys s) (hD : va_D A wc) (hE : ev_N s) (hZ : zq_W (va_A wc H.size) s H) (hC : va_Nc "java/lang/IllegalStateException" "java/lang/IllegalArgumentException" s) : PreS s H (va_Pc As (pc_H D tys wc H.size)) As :=
  ⟨fun a U g mk q => by obtain ⟨q0, ⟨⟨q1, qP, qK, qD, qE⟩, qZ⟩, qC⟩ := q; exact ⟨q0, ⟨⟨q1, qP, va_K.moved (u := U) (U := U.calling g mk a) (Vm.Alike.refl U.vm) qK, qD, ev_S rfl qE⟩, ⟨vx_Zq.moved (u := U) (U := U.calling g mk a) (Vm.Alike.refl U.vm) qZ.1, vx_Zq.moved (u := U) (U := U.calling g mk a) (Vm.Alike.refl U.vm) qZ.2⟩⟩, va_Nc.moved (u := U) (U := U.calling g mk a) (Vm.Alike.refl U.vm) qC⟩, fun U hU hW => ⟨rfl, ⟨⟨by rw [hU], by rw [hU]; exact hP, va_K.moved hW.alike hK, hD.weaken (fun _ _ _ _ => trivial), ev_W hW hE⟩, by rw [hU]; exact ⟨vx_Zq.moved hW.alike hZ.1, vx_Zq.moved hW.alike hZ.2⟩⟩, va_Nc.moved hW.alike hC⟩⟩
end FWH

/-! what the start gives: class numbers, the words that travel in ev_N -/
theorem st_arr {args : Array Value} {s : State} {ty : FieldType} (hp : ∀ C, ty ≠ .object C) (h : (Cond.arrayClass ty).before args s = true) : ∃ cA : ClassId, ArrOfT s cA ty ∧ va_RA s cA ty := by
  obtain ⟨c, k, comp, h1, h2, h3⟩ := Cond.arrayClass_spec h
  refine ⟨c, fun n z => ⟨fun k h => (by cases h), k, h2, comp, h3⟩, ?_⟩
  cases ty with
  | object C => exact absurd rfl (hp C)
  | _ => exact h1
theorem st_K {args : Array Value} {s : State} (hts : ∀ w ∈ wg_all, w.before args s = true) : ∃ (dC : Nat → ClassId) (dI : Nat → Nat → Nat) (cJ cI cZ cB : ClassId), va_K (dC, dI) cs_3 (ty_4 cJ cI cZ cB) s := by
  obtain ⟨cN, iN, hN⟩ := u_known (C := "FourWords$Line") (T := tb_N) (N := 2) hts um_N (hts _ mw_t22)
  obtain ⟨cX, iX, hX⟩ := u_known (C := "FourWords") (T := tb_X) (N := 6) hts um_X (hts _ mw_t14)
  obtain ⟨cM, iM, hM⟩ := u_known (C := "FourWordsModel") (T := tb_M) (N := 12) hts um_M (hts _ mw_t455)
  obtain ⟨cJ, j1, j2⟩ := st_arr (fun C h => by cases h) (hts _ mw_t36)
  obtain ⟨cI, i1, i2⟩ := st_arr (fun C h => by cases h) (hts _ mw_t37)
  obtain ⟨cZ, z1, z2⟩ := st_arr (fun C h => by cases h) (hts _ mw_t38)
  obtain ⟨cB, b1, b2⟩ := st_arr (fun C h => by cases h) (hts _ mw_t39)
  refine ⟨fun c => match c with | 0 => cN | 1 => cX | _ => cM, fun c => match c with | 0 => iN | 1 => iX | _ => iM, cJ, cI, cZ, cB, ?_, ?_⟩
  · intro c q h
    match c, h with
    | 0, h => cases h; exact hN
    | 1, h => cases h; exact hX
    | 2, h => cases h; exact hM
    | _ + 3, h => simp at h
  · intro k q h
    match k, h with
    | 0, h => cases h; exact ⟨j1, j2⟩
    | 1, h => cases h; exact ⟨i1, i2⟩
    | 2, h => cases h; exact ⟨z1, z2⟩
    | 3, h => cases h; exact ⟨b1, b2⟩
    | _ + 4, h => simp at h
theorem st_str {args : Array Value} {s : State} {k : Nat} {tx : String} (h1 : (Cond.stringRef "FourWords" k tx).before args s = true) (h2 : (Cond.exactly (.string "FourWords" k) "java/lang/String").before args s = true) : ∃ sa : Nat, vk_R "FourWords" k tx sa s := by
  obtain ⟨a, c, cell, kk, q1, -⟩ := Cond.exactly_spec (args := args) (first := s) (o := none) (s := s) (idx := []) h2
  exact ⟨a, vk_R.of h1 q1⟩
theorem me_X26 : (Jvm.Cond.methodLinkNest "FourWords" (26 : Nat) ({ cls := "FourWords$Line", name := "<init>", desc := "()V" } : Jvm.MethodName) "FourWords") ∈ lw_tbl := by decide +kernel
theorem me_X136 : (Jvm.Cond.fieldLinkNest "FourWords" (136 : Nat) "FourWords$Line" "letters" "[B" "FourWords") ∈ lw_tbl := by decide +kernel
theorem me_X126 : (Jvm.Cond.fieldLinkNest "FourWords" (126 : Nat) "FourWords$Line" "length" "I" "FourWords") ∈ lw_tbl := by decide +kernel
theorem me_X157 : (Jvm.Cond.methodLinkNest "FourWords" (157 : Nat) ({ cls := "FourWords$Bits", name := "lowest", desc := "(I)J" } : Jvm.MethodName) "FourWords") ∈ lw_tbl := by decide +kernel
theorem me_X164 : (Jvm.Cond.methodLinkNest "FourWords" (164 : Nat) ({ cls := "FourWords$Bits", name := "withHighestInFront", desc := "(JI)J" } : Jvm.MethodName) "FourWords") ∈ lw_tbl := by decide +kernel
theorem me_X173 : (Jvm.Cond.methodLinkNest "FourWords" (173 : Nat) ({ cls := "FourWords$Bits", name := "quotient", desc := "(JJ)J" } : Jvm.MethodName) "FourWords") ∈ lw_tbl := by decide +kernel
theorem me_X192 : (Jvm.Cond.methodLinkNest "FourWords" (192 : Nat) ({ cls := "FourWords$Bits", name := "below", desc := "(JJ)Z" } : Jvm.MethodName) "FourWords") ∈ lw_tbl := by decide +kernel
theorem me_X116 : (Jvm.Cond.methodLinkNest "FourWords" (116 : Nat) ({ cls := "FourWords$Line", name := "clear", desc := "()V" } : Jvm.MethodName) "FourWords") ∈ lw_tbl := by decide +kernel
theorem me_X230 : (Jvm.Cond.methodLinkNest "FourWords" (230 : Nat) ({ cls := "FourWords$Bits", name := "digits", desc := "(J)I" } : Jvm.MethodName) "FourWords") ∈ lw_tbl := by decide +kernel
theorem me_X233 : (Jvm.Cond.methodLinkNest "FourWords" (233 : Nat) ({ cls := "FourWords$Line", name := "writeSpaces", desc := "(I)V" } : Jvm.MethodName) "FourWords") ∈ lw_tbl := by decide +kernel
theorem me_X217 : (Jvm.Cond.methodLinkNest "FourWords" (217 : Nat) ({ cls := "FourWords$Line", name := "write", desc := "(C)V" } : Jvm.MethodName) "FourWords") ∈ lw_tbl := by decide +kernel
theorem me_X236 : (Jvm.Cond.methodLinkNest "FourWords" (236 : Nat) ({ cls := "FourWords$Line", name := "writeDigits", desc := "(JI)V" } : Jvm.MethodName) "FourWords") ∈ lw_tbl := by decide +kernel
theorem me_N25 : (Jvm.Cond.methodLinkNest "FourWords$Line" (25 : Nat) ({ cls := "FourWords$Bits", name := "quotient", desc := "(JJ)J" } : Jvm.MethodName) "FourWords") ∈ lw_tbl := by decide +kernel
theorem me_D79 : (Jvm.Cond.declares ({ cls := "java/lang/RuntimeException", name := "<init>", desc := "(Ljava/lang/String;)V" } : Jvm.MethodName)) ∈ lw_tbl := by decide +kernel
theorem me_D81 : (Jvm.Cond.declares ({ cls := "java/lang/Exception", name := "<init>", desc := "(Ljava/lang/String;)V" } : Jvm.MethodName)) ∈ lw_tbl := by decide +kernel
theorem me_D83 : (Jvm.Cond.declares ({ cls := "java/lang/Throwable", name := "<init>", desc := "(Ljava/lang/String;)V" } : Jvm.MethodName)) ∈ lw_tbl := by decide +kernel
theorem me_C77 : (Jvm.Cond.castable "java/lang/IllegalArgumentException" "java/lang/IllegalArgumentException") ∈ lw_tbl := by decide +kernel
theorem me_C148 : (Jvm.Cond.castable "java/lang/IllegalStateException" "java/lang/IllegalStateException") ∈ lw_tbl := by decide +kernel
theorem me_C433 : (Jvm.Cond.castable "java/lang/IndexOutOfBoundsException" "java/lang/IndexOutOfBoundsException") ∈ lw_tbl := by decide +kernel
theorem me_S142 : (Cond.stringRef "FourWords" 142 "number out of range") ∈ lw_tbl := by decide +kernel
theorem mf_S142 : (Cond.exactly (.string "FourWords" 142) "java/lang/String") ∈ flatC (Jvm.Cond.and given_1 narrow_1) := by decide +kernel
theorem me_S152 : (Cond.stringRef "FourWords" 152 "no room on the pile") ∈ lw_tbl := by decide +kernel
theorem mf_S152 : (Cond.exactly (.string "FourWords" 152) "java/lang/String") ∈ flatC (Jvm.Cond.and given_1 narrow_1) := by decide +kernel
theorem me_S147 : (Cond.stringRef "FourWords" 147 "too few values on the pile") ∈ lw_tbl := by decide +kernel
theorem mf_S147 : (Cond.exactly (.string "FourWords" 147) "java/lang/String") ∈ flatC (Jvm.Cond.and given_1 narrow_1) := by decide +kernel
theorem me_S150 : (Cond.stringRef "FourWords" 150 "no such value on the pile") ∈ lw_tbl := by decide +kernel
theorem mf_S150 : (Cond.exactly (.string "FourWords" 150) "java/lang/String") ∈ flatC (Jvm.Cond.and given_1 narrow_1) := by decide +kernel
theorem me_S131 : (Cond.stringRef "FourWords" 131 "no such byte of the text") ∈ lw_tbl := by decide +kernel
theorem mf_S131 : (Cond.exactly (.string "FourWords" 131) "java/lang/String") ∈ flatC (Jvm.Cond.and given_1 narrow_1) := by decide +kernel
theorem st_E {args : Array Value} {s : State} (htsA : ∀ w ∈ lw_tbl, w.before args s = true) (hgv : (Jvm.Cond.and given_1 narrow_1).before args s = true) : ev_N s := ⟨va_Nw.of rfl (htsA _ me_X26), va_Nw.of rfl (htsA _ me_X136), va_Nw.of rfl (htsA _ me_X126), va_Nw.of rfl (htsA _ me_X157), va_Nw.of rfl (htsA _ me_X164), va_Nw.of rfl (htsA _ me_X173), va_Nw.of rfl (htsA _ me_X192), va_Nw.of rfl (htsA _ me_X116), va_Nw.of rfl (htsA _ me_X230), va_Nw.of rfl (htsA _ me_X233), va_Nw.of rfl (htsA _ me_X217), va_Nw.of rfl (htsA _ me_X236), va_Nw.of rfl (htsA _ me_N25), va_Nw.of rfl (htsA _ me_D79), va_Nw.of rfl (htsA _ me_D81), va_Nw.of rfl (htsA _ me_D83), va_Nw.of rfl (htsA _ me_C77), va_Nw.of rfl (htsA _ me_C148), va_Nw.of rfl (htsA _ me_C433), st_str (htsA _ me_S142) (flat_of_before _ hgv _ mf_S142), st_str (htsA _ me_S152) (flat_of_before _ hgv _ mf_S152), st_str (htsA _ me_S147) (flat_of_before _ hgv _ mf_S147), st_str (htsA _ me_S150) (flat_of_before _ hgv _ mf_S150), st_str (htsA _ me_S131) (flat_of_before _ hgv _ mf_S131)⟩
theorem me_LU : (Cond.laysStatic Bundle.tN "UNASSIGNED_STACK" Bundle.steD) ∈ lw_tbl := by decide +kernel
theorem me_LS : (Cond.laysStatic Bundle.tN "SUPPRESSED_SENTINEL" Bundle.listD) ∈ lw_tbl := by decide +kernel
theorem mf_LU : (Cond.isRef (.static Bundle.tN "UNASSIGNED_STACK" Bundle.steD)) ∈ flatC (Jvm.Cond.and given_1 narrow_1) := by decide +kernel
theorem mf_LS : (Cond.isRef (.static Bundle.tN "SUPPRESSED_SENTINEL" Bundle.listD)) ∈ flatC (Jvm.Cond.and given_1 narrow_1) := by decide +kernel
theorem mf_NC : (Cond.not (.castable "java/lang/IllegalStateException" "java/lang/IllegalArgumentException")) ∈ flatC (Jvm.Cond.and given_1 narrow_1) := by decide +kernel
theorem st_Z {args : Array Value} {s : State} (htsA : ∀ w ∈ lw_tbl, w.before args s = true) (hi : (Cond.initialized "java/lang/Throwable").before args s = true) (hgv : (Jvm.Cond.and given_1 narrow_1).before args s = true) {A : Nat → Prop} (hA : ∀ a : Nat, a < s.heap.size → ¬ A a) : zq_W A s s.heap :=
  ⟨vx_Zqof (htsA _ me_LU) hi (flat_of_before _ hgv _ mf_LU) hA, vx_Zqof (htsA _ me_LS) hi (flat_of_before _ hgv _ mf_LS) hA⟩

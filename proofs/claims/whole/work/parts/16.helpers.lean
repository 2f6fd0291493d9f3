def wp_L_push (post : Int32 → (Nat → Int64) → (Nat → Int64) → (Nat → Int32) → (Nat → Int32) → (Nat → Int32) → Int32 → Int32 → (Nat → Int64) → Prop) (a1 : Int64) (a3 : Int64) (a5 : Int32) (a6 : Int32) (fO : (Nat → Int64)) (fU : (Nat → Int64)) (fW : (Nat → Int32)) (fG : (Nat → Int32)) (fL : (Nat → Int32)) (len : Int32) (size : Int32) (fo : (Nat → Int64)) : Prop := wp_X_push (fun r10 fO10 fU10 fW10 fG10 fL10 len10 size10 => (vp_in (0 : Int32) 1 ∧ post (0 : Int32) fO10 fU10 fW10 fG10 fL10 len10 size10 (vp_updL fo (0 : Int32).toNatClampNeg r10.toInt64))) (fun (E9 : String) fO10x fU10x fW10x fG10x fL10x len10x size10x => (E9 = "java/lang/IllegalArgumentException" ∧ post (1 : Int32) fO10x fU10x fW10x fG10x fL10x len10x size10x fo) ∨ (E9 = "java/lang/IllegalStateException" ∧ post (2 : Int32) fO10x fU10x fW10x fG10x fL10x len10x size10x fo)) a1 a3 a5 a6 fO fU fW fG fL len size
def wp_L_two (post : Int32 → (Nat → Int64) → (Nat → Int64) → (Nat → Int32) → (Nat → Int32) → (Nat → Int32) → Int32 → Int32 → Prop) (a1 : Int32) (fO : (Nat → Int64)) (fU : (Nat → Int64)) (fW : (Nat → Int32)) (fG : (Nat → Int32)) (fL : (Nat → Int32)) (len : Int32) (size : Int32) : Prop := wp_X_two (fun fO2 fU2 fW2 fG2 fL2 len2 size2 => post (0 : Int32) fO2 fU2 fW2 fG2 fL2 len2 size2) (fun (E9 : String) fO2x fU2x fW2x fG2x fL2x len2x size2x => (E9 = "java/lang/IllegalArgumentException" ∧ post (1 : Int32) fO2x fU2x fW2x fG2x fL2x len2x size2x) ∨ (E9 = "java/lang/IllegalStateException" ∧ post (2 : Int32) fO2x fU2x fW2x fG2x fL2x len2x size2x)) a1 fO fU fW fG fL len size
def wp_L_shift (post : Int32 → (Nat → Int64) → (Nat → Int64) → (Nat → Int32) → (Nat → Int32) → (Nat → Int32) → Int32 → Int32 → Prop) (a1 : Int32) (fO : (Nat → Int64)) (fU : (Nat → Int64)) (fW : (Nat → Int32)) (fG : (Nat → Int32)) (fL : (Nat → Int32)) (len : Int32) (size : Int32) : Prop := wp_X_shift (fun fO2 fU2 fW2 fG2 fL2 len2 size2 => post (0 : Int32) fO2 fU2 fW2 fG2 fL2 len2 size2) (fun (E9 : String) fO2x fU2x fW2x fG2x fL2x len2x size2x => (E9 = "java/lang/IllegalArgumentException" ∧ post (1 : Int32) fO2x fU2x fW2x fG2x fL2x len2x size2x) ∨ (E9 = "java/lang/IllegalStateException" ∧ post (2 : Int32) fO2x fU2x fW2x fG2x fL2x len2x size2x)) a1 fO fU fW fG fL len size
def wp_L_one (post : Int32 → (Nat → Int64) → (Nat → Int64) → (Nat → Int32) → (Nat → Int32) → (Nat → Int32) → Int32 → Int32 → Prop) (a1 : Int32) (fO : (Nat → Int64)) (fU : (Nat → Int64)) (fW : (Nat → Int32)) (fG : (Nat → Int32)) (fL : (Nat → Int32)) (len : Int32) (size : Int32) : Prop := wp_X_one (fun fO2 fU2 fW2 fG2 fL2 len2 size2 => post (0 : Int32) fO2 fU2 fW2 fG2 fL2 len2 size2) (fun (E9 : String) fO2x fU2x fW2x fG2x fL2x len2x size2x => (E9 = "java/lang/IllegalArgumentException" ∧ post (1 : Int32) fO2x fU2x fW2x fG2x fL2x len2x size2x) ∨ (E9 = "java/lang/IllegalStateException" ∧ post (2 : Int32) fO2x fU2x fW2x fG2x fL2x len2x size2x)) a1 fO fU fW fG fL len size
def wp_L_choose (post : Int32 → (Nat → Int64) → (Nat → Int64) → (Nat → Int32) → (Nat → Int32) → (Nat → Int32) → Int32 → Int32 → Prop) (fO : (Nat → Int64)) (fU : (Nat → Int64)) (fW : (Nat → Int32)) (fG : (Nat → Int32)) (fL : (Nat → Int32)) (len : Int32) (size : Int32) : Prop := wp_X_choose (fun fO1 fU1 fW1 fG1 fL1 len1 size1 => post (0 : Int32) fO1 fU1 fW1 fG1 fL1 len1 size1) (fun (E9 : String) fO1x fU1x fW1x fG1x fL1x len1x size1x => (E9 = "java/lang/IllegalStateException" ∧ post (1 : Int32) fO1x fU1x fW1x fG1x fL1x len1x size1x)) fO fU fW fG fL len size
def wp_L_join (post : Int32 → (Nat → Int64) → (Nat → Int64) → (Nat → Int32) → (Nat → Int32) → (Nat → Int32) → Int32 → Int32 → Prop) (fO : (Nat → Int64)) (fU : (Nat → Int64)) (fW : (Nat → Int32)) (fG : (Nat → Int32)) (fL : (Nat → Int32)) (len : Int32) (size : Int32) : Prop := wp_X_join (fun fO1 fU1 fW1 fG1 fL1 len1 size1 => post (0 : Int32) fO1 fU1 fW1 fG1 fL1 len1 size1) (fun (E9 : String) fO1x fU1x fW1x fG1x fL1x len1x size1x => (E9 = "java/lang/IllegalArgumentException" ∧ post (1 : Int32) fO1x fU1x fW1x fG1x fL1x len1x size1x) ∨ (E9 = "java/lang/IllegalStateException" ∧ post (2 : Int32) fO1x fU1x fW1x fG1x fL1x len1x size1x)) fO fU fW fG fL len size
def wp_L_copies (post : Int32 → (Nat → Int64) → (Nat → Int64) → (Nat → Int32) → (Nat → Int32) → (Nat → Int32) → Int32 → Int32 → Prop) (a1 : Int32) (fO : (Nat → Int64)) (fU : (Nat → Int64)) (fW : (Nat → Int32)) (fG : (Nat → Int32)) (fL : (Nat → Int32)) (len : Int32) (size : Int32) : Prop := wp_X_copies (fun fO2 fU2 fW2 fG2 fL2 len2 size2 => post (0 : Int32) fO2 fU2 fW2 fG2 fL2 len2 size2) (fun (E9 : String) fO2x fU2x fW2x fG2x fL2x len2x size2x => (E9 = "java/lang/IllegalArgumentException" ∧ post (1 : Int32) fO2x fU2x fW2x fG2x fL2x len2x size2x) ∨ (E9 = "java/lang/IllegalStateException" ∧ post (2 : Int32) fO2x fU2x fW2x fG2x fL2x len2x size2x)) a1 fO fU fW fG fL len size
def wp_L_part (post : Int32 → (Nat → Int64) → (Nat → Int64) → (Nat → Int32) → (Nat → Int32) → (Nat → Int32) → Int32 → Int32 → Prop) (a1 : Int32) (a2 : Int32) (fO : (Nat → Int64)) (fU : (Nat → Int64)) (fW : (Nat → Int32)) (fG : (Nat → Int32)) (fL : (Nat → Int32)) (len : Int32) (size : Int32) : Prop := wp_X_part (fun fO3 fU3 fW3 fG3 fL3 len3 size3 => post (0 : Int32) fO3 fU3 fW3 fG3 fL3 len3 size3) (fun (E9 : String) fO3x fU3x fW3x fG3x fL3x len3x size3x => (E9 = "java/lang/IllegalArgumentException" ∧ post (1 : Int32) fO3x fU3x fW3x fG3x fL3x len3x size3x) ∨ (E9 = "java/lang/IllegalStateException" ∧ post (2 : Int32) fO3x fU3x fW3x fG3x fL3x len3x size3x)) a1 a2 fO fU fW fG fL len size
def wp_L_bit (post : Int32 → (Nat → Int64) → (Nat → Int64) → (Nat → Int32) → (Nat → Int32) → (Nat → Int32) → Int32 → Int32 → Prop) (fO : (Nat → Int64)) (fU : (Nat → Int64)) (fW : (Nat → Int32)) (fG : (Nat → Int32)) (fL : (Nat → Int32)) (len : Int32) (size : Int32) : Prop := wp_X_bit (fun fO1 fU1 fW1 fG1 fL1 len1 size1 => post (0 : Int32) fO1 fU1 fW1 fG1 fL1 len1 size1) (fun (E9 : String) fO1x fU1x fW1x fG1x fL1x len1x size1x => (E9 = "java/lang/IllegalStateException" ∧ post (1 : Int32) fO1x fU1x fW1x fG1x fL1x len1x size1x)) fO fU fW fG fL len size
def wp_L_as (post : Int32 → (Nat → Int64) → (Nat → Int64) → (Nat → Int32) → (Nat → Int32) → (Nat → Int32) → Int32 → Int32 → Prop) (a1 : Int32) (a2 : Int32) (fO : (Nat → Int64)) (fU : (Nat → Int64)) (fW : (Nat → Int32)) (fG : (Nat → Int32)) (fL : (Nat → Int32)) (len : Int32) (size : Int32) : Prop := wp_X_as (fun fO3 fU3 fW3 fG3 fL3 len3 size3 => post (0 : Int32) fO3 fU3 fW3 fG3 fL3 len3 size3) (fun (E9 : String) fO3x fU3x fW3x fG3x fL3x len3x size3x => (E9 = "java/lang/IllegalArgumentException" ∧ post (1 : Int32) fO3x fU3x fW3x fG3x fL3x len3x size3x) ∨ (E9 = "java/lang/IllegalStateException" ∧ post (2 : Int32) fO3x fU3x fW3x fG3x fL3x len3x size3x)) a1 a2 fO fU fW fG fL len size
def wp_L_again (post : Int32 → (Nat → Int64) → (Nat → Int64) → (Nat → Int32) → (Nat → Int32) → (Nat → Int32) → Int32 → Int32 → Prop) (a1 : Int32) (fO : (Nat → Int64)) (fU : (Nat → Int64)) (fW : (Nat → Int32)) (fG : (Nat → Int32)) (fL : (Nat → Int32)) (len : Int32) (size : Int32) : Prop := wp_X_again (fun fO2 fU2 fW2 fG2 fL2 len2 size2 => post (0 : Int32) fO2 fU2 fW2 fG2 fL2 len2 size2) (fun (E9 : String) fO2x fU2x fW2x fG2x fL2x len2x size2x => (E9 = "java/lang/IllegalArgumentException" ∧ post (1 : Int32) fO2x fU2x fW2x fG2x fL2x len2x size2x) ∨ (E9 = "java/lang/IllegalStateException" ∧ post (2 : Int32) fO2x fU2x fW2x fG2x fL2x len2x size2x)) a1 fO fU fW fG fL len size
def wp_L_text (post : Int32 → (Nat → Int64) → (Nat → Int64) → (Nat → Int32) → (Nat → Int32) → (Nat → Int32) → Int32 → Int32 → (Nat → Int64) → Prop) (a1 : Int32) (a2 : Int32) (fO : (Nat → Int64)) (fU : (Nat → Int64)) (fW : (Nat → Int32)) (fG : (Nat → Int32)) (fL : (Nat → Int32)) (len : Int32) (size : Int32) (fo : (Nat → Int64)) : Prop := wp_X_text (fun r5 fO5 fU5 fW5 fG5 fL5 len5 size5 => (vp_in (0 : Int32) 1 ∧ post (0 : Int32) fO5 fU5 fW5 fG5 fL5 len5 size5 (vp_updL fo (0 : Int32).toNatClampNeg r5.toInt64))) (fun (E9 : String) fO5x fU5x fW5x fG5x fL5x len5x size5x => (E9 = "java/lang/IllegalArgumentException" ∧ post (1 : Int32) fO5x fU5x fW5x fG5x fL5x len5x size5x fo) ∨ (E9 = "java/lang/IllegalStateException" ∧ post (2 : Int32) fO5x fU5x fW5x fG5x fL5x len5x size5x fo)) a1 a2 fO fU fW fG fL len size
def wp_L_letter (post : Int32 → (Nat → Int64) → (Nat → Int64) → (Nat → Int32) → (Nat → Int32) → (Nat → Int32) → Int32 → Int32 → (Nat → Int64) → Prop) (a1 : Int32) (fO : (Nat → Int64)) (fU : (Nat → Int64)) (fW : (Nat → Int32)) (fG : (Nat → Int32)) (fL : (Nat → Int32)) (len : Int32) (size : Int32) (fo : (Nat → Int64)) : Prop := wp_X_letter (fun r4 fO4 fU4 fW4 fG4 fL4 len4 size4 => (vp_in (0 : Int32) 1 ∧ post (0 : Int32) fO4 fU4 fW4 fG4 fL4 len4 size4 (vp_updL fo (0 : Int32).toNatClampNeg r4.toInt64))) (fun (E9 : String) fO4x fU4x fW4x fG4x fL4x len4x size4x => (E9 = "java/lang/IndexOutOfBoundsException" ∧ post (1 : Int32) fO4x fU4x fW4x fG4x fL4x len4x size4x fo)) a1 fO fU fW fG fL len size
def wp_L_told (post : Int32 → (Nat → Int64) → (Nat → Int64) → (Nat → Int32) → (Nat → Int32) → (Nat → Int32) → Int32 → Int32 → (Nat → Int64) → Prop) (a1 : Int32) (a2 : Int32) (fO : (Nat → Int64)) (fU : (Nat → Int64)) (fW : (Nat → Int32)) (fG : (Nat → Int32)) (fL : (Nat → Int32)) (len : Int32) (size : Int32) (fo : (Nat → Int64)) : Prop := wp_X_told (fun r5 fO5 fU5 fW5 fG5 fL5 len5 size5 => (vp_in (0 : Int32) 1 ∧ post (0 : Int32) fO5 fU5 fW5 fG5 fL5 len5 size5 (vp_updL fo (0 : Int32).toNatClampNeg r5))) (fun (E9 : String) fO5x fU5x fW5x fG5x fL5x len5x size5x => (E9 = "java/lang/IllegalArgumentException" ∧ post (1 : Int32) fO5x fU5x fW5x fG5x fL5x len5x size5x fo) ∨ (E9 = "java/lang/IllegalStateException" ∧ post (2 : Int32) fO5x fU5x fW5x fG5x fL5x len5x size5x fo)) a1 a2 fO fU fW fG fL len size
abbrev rm_L_push : Room := { frames := 8, cells := 1, slots := 6, locals := 130 }
abbrev ws_L_push : List Cond := .codeWith yn_L_push cd_L_push 9 (some .int) [((0 : Nat), (15 : Nat), (18 : Nat), (13 : Nat)), ((0 : Nat), (15 : Nat), (22 : Nat), (15 : Nat))] :: wg_all
abbrev rm_L_two : Room := { frames := 8, cells := 1, slots := 6, locals := 130 }
abbrev ws_L_two : List Cond := .codeWith yn_L_two cd_L_two 3 (some .int) [((0 : Nat), (5 : Nat), (8 : Nat), (13 : Nat)), ((0 : Nat), (5 : Nat), (11 : Nat), (15 : Nat))] :: wg_all
abbrev rm_L_shift : Room := { frames := 8, cells := 1, slots := 6, locals := 127 }
abbrev ws_L_shift : List Cond := .codeWith yn_L_shift cd_L_shift 3 (some .int) [((0 : Nat), (5 : Nat), (8 : Nat), (13 : Nat)), ((0 : Nat), (5 : Nat), (11 : Nat), (15 : Nat))] :: wg_all
abbrev rm_L_one : Room := { frames := 8, cells := 1, slots := 6, locals := 126 }
abbrev ws_L_one : List Cond := .codeWith yn_L_one cd_L_one 3 (some .int) [((0 : Nat), (5 : Nat), (8 : Nat), (13 : Nat)), ((0 : Nat), (5 : Nat), (11 : Nat), (15 : Nat))] :: wg_all
abbrev rm_L_choose : Room := { frames := 8, cells := 1, slots := 6, locals := 127 }
abbrev ws_L_choose : List Cond := .codeWith yn_L_choose cd_L_choose 2 (some .int) [((0 : Nat), (4 : Nat), (7 : Nat), (15 : Nat))] :: wg_all
abbrev rm_L_join : Room := { frames := 8, cells := 1, slots := 6, locals := 128 }
abbrev ws_L_join : List Cond := .codeWith yn_L_join cd_L_join 2 (some .int) [((0 : Nat), (4 : Nat), (7 : Nat), (13 : Nat)), ((0 : Nat), (4 : Nat), (10 : Nat), (15 : Nat))] :: wg_all
abbrev rm_L_copies : Room := { frames := 8, cells := 1, slots := 6, locals := 132 }
abbrev ws_L_copies : List Cond := .codeWith yn_L_copies cd_L_copies 3 (some .int) [((0 : Nat), (5 : Nat), (8 : Nat), (13 : Nat)), ((0 : Nat), (5 : Nat), (11 : Nat), (15 : Nat))] :: wg_all
abbrev rm_L_part : Room := { frames := 8, cells := 1, slots := 6, locals := 127 }
abbrev ws_L_part : List Cond := .codeWith yn_L_part cd_L_part 4 (some .int) [((0 : Nat), (6 : Nat), (9 : Nat), (13 : Nat)), ((0 : Nat), (6 : Nat), (12 : Nat), (15 : Nat))] :: wg_all
abbrev rm_L_bit : Room := { frames := 8, cells := 1, slots := 6, locals := 127 }
abbrev ws_L_bit : List Cond := .codeWith yn_L_bit cd_L_bit 2 (some .int) [((0 : Nat), (4 : Nat), (7 : Nat), (15 : Nat))] :: wg_all
abbrev rm_L_as : Room := { frames := 8, cells := 1, slots := 6, locals := 127 }
abbrev ws_L_as : List Cond := .codeWith yn_L_as cd_L_as 4 (some .int) [((0 : Nat), (6 : Nat), (9 : Nat), (13 : Nat)), ((0 : Nat), (6 : Nat), (12 : Nat), (15 : Nat))] :: wg_all
abbrev rm_L_again : Room := { frames := 8, cells := 1, slots := 6, locals := 125 }
abbrev ws_L_again : List Cond := .codeWith yn_L_again cd_L_again 3 (some .int) [((0 : Nat), (5 : Nat), (8 : Nat), (13 : Nat)), ((0 : Nat), (5 : Nat), (11 : Nat), (15 : Nat))] :: wg_all
abbrev rm_L_text : Room := { frames := 8, cells := 1, slots := 6, locals := 131 }
abbrev ws_L_text : List Cond := .codeWith yn_L_text cd_L_text 5 (some .int) [((0 : Nat), (10 : Nat), (13 : Nat), (13 : Nat)), ((0 : Nat), (10 : Nat), (17 : Nat), (15 : Nat))] :: wg_all
abbrev rm_L_letter : Room := { frames := 7, cells := 1, slots := 6, locals := 103 }
abbrev ws_L_letter : List Cond := .codeWith yn_L_letter cd_L_letter 4 (some .int) [((0 : Nat), (9 : Nat), (12 : Nat), (58 : Nat))] :: wg_all
abbrev rm_L_told : Room := { frames := 8, cells := 1, slots := 6, locals := 127 }
abbrev ws_L_told : List Cond := .codeWith yn_L_told cd_L_told 5 (some .int) [((0 : Nat), (9 : Nat), (12 : Nat), (13 : Nat)), ((0 : Nat), (9 : Nat), (16 : Nat), (15 : Nat))] :: wg_all
set_option maxHeartbeats 4000000 in
set_option maxRecDepth 100000 in
theorem kt_L_push (l : Launch) (hlt : l.stackTraces = false) (dC : Nat → ClassId) (dI : Nat → Nat → Nat) (cJ cI cZ cB : ClassId) (h0 qO qU qW qG qN qL qo : Nat) (sz : Nat) (a1 : Int64) (a3 : Int64) (a5 : Int32) (a6 : Int32) (fO : (Nat → Int64)) (fU : (Nat → Int64)) (fW : (Nat → Int32)) (fG : (Nat → Int32)) (fL : (Nat → Int32)) (len : Int32) (size : Int32) (fo : (Nat → Int64)) (post : Int32 → (Nat → Int64) → (Nat → Int64) → (Nat → Int32) → (Nat → Int32) → (Nat → Int32) → Int32 → Int32 → (Nat → Int64) → Prop) (hw : wp_L_push post a1 a3 a5 a6 fO fU fW fG fL len size fo) : Met l yn_L_push ws_L_push rm_L_push (va_Pc [.ref h0, .long a1, .long a3, .int a5, .int a6, .ref qo] (pc_H (dC, dI) (ty_4 cJ cI cZ cB) (wd_H h0 qO qU qW qG qN qL qo cJ cI cZ cB fO fU fW fG fL len size fo) sz)) (qi_H dC dI cJ cI cZ cB h0 qO qU qW qG qN qL qo post (va_A (wd_H h0 qO qU qW qG qN qL qo cJ cI cZ cB fO fU fW fG fL len size fo) sz)) 1 6 (va_A (wd_H h0 qO qU qW qG qN qL qo cJ cI cZ cB fO fU fW fG fL len size fo) sz) := by
  refine va_MetW (cc := cd_L_push) (maxL := 9) (ret := (some .int)) (by decide) rfl ?_
  intro p e s m args below meth c s₁ B hml hv
  obtain ⟨rfl, ⟨⟨hsz, hP, hK, hD0, hE⟩, hZ⟩, hC⟩ := hv
  have hx := B.exec
  have hb := B.bytes
  have hr := B.returns
  have hts := atoms_spec (ws := ws_L_push) B.pre
  have hq : ∀ {w : Cond}, w ∈ wg_all → w.before ([.ref h0, .long a1, .long a3, .int a5, .int a6, .ref qo] : List Value).toArray s = true := fun h => hts _ (List.mem_cons_of_mem _ h)
  have hu : ∀ L : List Cond, (∀ w ∈ L, w ∈ wg_all) → ∀ w ∈ L, w ∈ ws_L_push := fun L h w hw => List.mem_cons_of_mem _ (h w hw)
  have hown : s.vm.findClass "FourWordsLaw" = some m.cls := findClass_of_methodNamed B.named
  have hlocks := B.notSynchronized
  subst hsz
  have hD := hD0.self (sz := s.heap.size)
  have htab : c.exceptionTable.toList = [⟨0, 15, 18, 13⟩, ⟨0, 15, 22, 15⟩] := vx_table (x := yn_L_push) B (hts _ List.mem_cons_self)
  generalize hAe : va_A (wd_H h0 qO qU qW qG qN qL qo cJ cI cZ cB fO fU fW fG fL len size fo) s.heap.size = A at hD hZ ⊢
  have hA : ∀ q : Nat, s.heap.size ≤ q → A q := fun q h => by rw [← hAe]; exact Or.inr h
  have hS : va_S A s.heap s.heap [] := va_S.rf
  have hl := lv_entry [.ref h0, .long a1, .long a3, .int a5, .int a6, .ref qo] (n := 9) (Nat.le_of_ble_eq_true rfl)
  rw [lg_entry_eq]
  generalize (lg_sl [.ref h0, .long a1, .long a3, .int a5, .int a6, .ref qo] ++ List.replicate (9 - (lg_sl [.ref h0, .long a1, .long a3, .int a5, .int a6, .ref qo]).length) Slot.unset).toArray = ls at hl ⊢
  have hl : lv_has ls 9 [(0, .ref h0), (1, .long a1), (3, .long a3), (5, .int a5), (6, .int a6), (7, .ref qo)] := hl
  unfold wp_L_push at hw
  refine lv_aload hx hb dc_L_push_0 (lv_at hl 5 rfl) ?_
  refine lv_iconst (v := 0) hx hb dc_L_push_2 (by decide) ?_
  refine lv_aload_n hx hb dc_L_push_3 rfl (lv_at hl 0 rfl) ?_
  refine lv_lload_n hx hb dc_L_push_4 rfl (lv_at hl 1 rfl) ?_
  refine lv_lload_n hx hb dc_L_push_5 rfl (lv_at hl 2 rfl) ?_
  refine lv_iload hx hb dc_L_push_6 (lv_at hl 3 rfl) ?_
  refine lv_iload hx hb dc_L_push_8 (lv_at hl 4 rfl) ?_
  refine gx_i (S := (Nat → Int64) × (Nat → Int64) × (Nat → Int32) × (Nat → Int32) × (Nat → Int32) × Int32 × Int32) (w1 := (fun u => (wd_X h0 qO qU qW qG qN qL cJ cI cZ cB u.1 u.2.1 u.2.2.1 u.2.2.2.1 u.2.2.2.2.1 u.2.2.2.2.2.1 u.2.2.2.2.2.2))) (w2 := (fun u => (wd_X h0 qO qU qW qG qN qL cJ cI cZ cB u.2.1 u.2.2.1 u.2.2.2.1 u.2.2.2.2.1 u.2.2.2.2.2.1 u.2.2.2.2.2.2.1 u.2.2.2.2.2.2.2))) (wc := (wd_X h0 qO qU qW qG qN qL cJ cI cZ cB fO fU fW fG fL len size)) (wr := ([(qo, .inl (cJ, 1, .inr (.inl fo)))] : va_W)) (vx_runV (As := [.long a1, .long a3, .int a5, .int a6]) (rest := [.int (0 : Int32), .ref qo]) ⟨hx, hb, hml, hown, hts⟩ (kt_X_push l hlt dC dI cJ cI cZ cB h0 qO qU qW qG qN qL _ a1 a3 a5 a6 fO fU fW fG fL len size _ _ hw) ⟨callB_of 4 hts (gw_in mw_t71) rfl rfl rfl (hq mw_t1) (hq mw_t68) (by decide +kernel) ⟨Nat.le_of_ble_eq_true rfl, Nat.le_of_ble_eq_true rfl⟩, hq mw_t69, hq mw_t70⟩ (pq_W (va_recv (q0 := 0) (ci := 1) hK hP rfl rfl) (hP.sub (ws' := (wd_X h0 qO qU qW qG qN qL cJ cI cZ cB fO fU fW fG fL len size)) [0, 1, 2, 3, 4, 5, 6] rfl) hK (hD.sub (ws' := (wd_X h0 qO qU qW qG qN qL cJ cI cZ cB fO fU fW fG fL len size)) [0, 1, 2, 3, 4, 5, 6] (by decide) rfl) hE (zz_W hZ hS (va_free (wc := (wd_X h0 qO qU qW qG qN qL cJ cI cZ cB fO fU fW fG fL len size)) hD hS hA [0, 1, 2, 3, 4, 5, 6] rfl))) rfl rfl hl.1 rfl (lv_room (Nat.le_of_ble_eq_true rfl)) dc_L_push_10 ⟨Nat.le_of_ble_eq_true rfl, Nat.le_of_ble_eq_true rfl⟩) hP hD hS hA [0, 1, 2, 3, 4, 5, 6] [7] rfl rfl (by decide) (by decide) (fun r10 u H locs hw hP hD hS => ?_) (fun E9 u q9 ce H locs hw hP hD hS hce hcv hcl => ?_)
  · obtain ⟨fO10, fU10, fW10, fG10, fL10, len10, size10⟩ := u
    have hP : va_P (dC, dI) cs_3 (wd_H h0 qO qU qW qG qN qL qo cJ cI cZ cB fO10 fU10 fW10 fG10 fL10 len10 size10 fo) H := hP.sub (ws' := (wd_H h0 qO qU qW qG qN qL qo cJ cI cZ cB fO10 fU10 fW10 fG10 fL10 len10 size10 fo)) [1, 2, 3, 4, 5, 6, 7, 0] rfl
    have hD : va_D A (wd_H h0 qO qU qW qG qN qL qo cJ cI cZ cB fO10 fU10 fW10 fG10 fL10 len10 size10 fo) := hD.sub (ws' := (wd_H h0 qO qU qW qG qN qL qo cJ cI cZ cB fO10 fU10 fW10 fG10 fL10 len10 size10 fo)) [1, 2, 3, 4, 5, 6, 7, 0] (by decide) rfl
    try dsimp only at hw
    refine lv_i2l hx hb dc_L_push_13 rfl ?_
    obtain ⟨hin, hw⟩ := hw
    refine va_last hx hb hK hP hD hS 7 0 rfl rfl hin dc_L_push_14 (fun H locs hP hD hS => ?_)
    have hP : va_P (dC, dI) cs_3 (wd_H h0 qO qU qW qG qN qL qo cJ cI cZ cB fO10 fU10 fW10 fG10 fL10 len10 size10 (vp_updL fo (0 : Int32).toNatClampNeg r10.toInt64)) H := hP
    have hD : va_D A (wd_H h0 qO qU qW qG qN qL qo cJ cI cZ cB fO10 fU10 fW10 fG10 fL10 len10 size10 (vp_updL fo (0 : Int32).toNatClampNeg r10.toInt64)) := hD
    refine lv_goto (tgt := 26) hx hb dc_L_push_15 (by decide) ?_
    refine lv_iconst (v := 0) hx hb dc_L_push_26 (by decide) ?_
    exact W.iret (v := (0 : Int32)) hx hb hr (fun t ht hW => ⟨⟨(0 : Int32), (fO10, fU10, fW10, fG10, fL10, len10, size10, vp_updL fo (0 : Int32).toNatClampNeg r10.toInt64), rfl, hw, by rw [ht]; exact hP, va_K.moved hW.alike hK, hD⟩, hS.F ht⟩) hS.2.2 dc_L_push_27
  · obtain ⟨fO10x, fU10x, fW10x, fG10x, fL10x, len10x, size10x⟩ := u
    try dsimp only at hw
    rcases hw with ⟨rfl, hw⟩ | ⟨rfl, hw⟩
    · have hP : va_P (dC, dI) cs_3 (wd_H h0 qO qU qW qG qN qL qo cJ cI cZ cB fO10x fU10x fW10x fG10x fL10x len10x size10x fo) H := hP.sub (ws' := (wd_H h0 qO qU qW qG qN qL qo cJ cI cZ cB fO10x fU10x fW10x fG10x fL10x len10x size10x fo)) [1, 2, 3, 4, 5, 6, 7, 0] rfl
      have hD : va_D A (wd_H h0 qO qU qW qG qN qL qo cJ cI cZ cB fO10x fU10x fW10x fG10x fL10x len10x size10x fo) := hD.sub (ws' := (wd_H h0 qO qU qW qG qN qL qo cJ cI cZ cB fO10x fU10x fW10x fG10x fL10x len10x size10x fo)) [1, 2, 3, 4, 5, 6, 7, 0] (by decide) rfl
      refine vx_catch hown [] ⟨0, 15, 18, 13⟩ [⟨0, 15, 22, 15⟩] htab (fun z hz => (List.not_mem_nil hz).elim) (by decide) (by decide) (hq mw_t66) (va_Nw.use rfl (en_C77 hE)) hce hcv hcl ?_
      refine lv_astore (lv' := [(8, .ref q9), (0, .ref h0), (1, .long a1), (3, .long a3), (5, .int a5), (6, .int a6), (7, .ref qo)]) hx hb dc_L_push_18 hl (Nat.le_of_ble_eq_true rfl) rfl (fun ls hl => ?_)
      refine lv_iconst (v := 1) hx hb dc_L_push_20 (by decide) ?_
      exact W.iret (v := (1 : Int32)) hx hb hr (fun t ht hW => ⟨⟨(1 : Int32), (fO10x, fU10x, fW10x, fG10x, fL10x, len10x, size10x, fo), rfl, hw, by rw [ht]; exact hP, va_K.moved hW.alike hK, hD⟩, hS.F ht⟩) hS.2.2 dc_L_push_21
    · have hP : va_P (dC, dI) cs_3 (wd_H h0 qO qU qW qG qN qL qo cJ cI cZ cB fO10x fU10x fW10x fG10x fL10x len10x size10x fo) H := hP.sub (ws' := (wd_H h0 qO qU qW qG qN qL qo cJ cI cZ cB fO10x fU10x fW10x fG10x fL10x len10x size10x fo)) [1, 2, 3, 4, 5, 6, 7, 0] rfl
      have hD : va_D A (wd_H h0 qO qU qW qG qN qL qo cJ cI cZ cB fO10x fU10x fW10x fG10x fL10x len10x size10x fo) := hD.sub (ws' := (wd_H h0 qO qU qW qG qN qL qo cJ cI cZ cB fO10x fU10x fW10x fG10x fL10x len10x size10x fo)) [1, 2, 3, 4, 5, 6, 7, 0] (by decide) rfl
      refine vx_catch hown [⟨0, 15, 18, 13⟩] ⟨0, 15, 22, 15⟩ [] htab (fun z hz => by obtain rfl := List.mem_singleton.mp hz; exact Or.inr ⟨by decide, "java/lang/IllegalArgumentException", hq mw_t66, hC⟩) (by decide) (by decide) (hq mw_t67) (va_Nw.use rfl (en_C148 hE)) hce hcv hcl ?_
      refine lv_astore (lv' := [(8, .ref q9), (0, .ref h0), (1, .long a1), (3, .long a3), (5, .int a5), (6, .int a6), (7, .ref qo)]) hx hb dc_L_push_22 hl (Nat.le_of_ble_eq_true rfl) rfl (fun ls hl => ?_)
      refine lv_iconst (v := 2) hx hb dc_L_push_24 (by decide) ?_
      exact W.iret (v := (2 : Int32)) hx hb hr (fun t ht hW => ⟨⟨(2 : Int32), (fO10x, fU10x, fW10x, fG10x, fL10x, len10x, size10x, fo), rfl, hw, by rw [ht]; exact hP, va_K.moved hW.alike hK, hD⟩, hS.F ht⟩) hS.2.2 dc_L_push_25
set_option maxHeartbeats 4000000 in
set_option maxRecDepth 100000 in
theorem kt_L_two (l : Launch) (hlt : l.stackTraces = false) (dC : Nat → ClassId) (dI : Nat → Nat → Nat) (cJ cI cZ cB : ClassId) (h0 qO qU qW qG qN qL : Nat) (sz : Nat) (a1 : Int32) (fO : (Nat → Int64)) (fU : (Nat → Int64)) (fW : (Nat → Int32)) (fG : (Nat → Int32)) (fL : (Nat → Int32)) (len : Int32) (size : Int32) (post : Int32 → (Nat → Int64) → (Nat → Int64) → (Nat → Int32) → (Nat → Int32) → (Nat → Int32) → Int32 → Int32 → Prop) (hw : wp_L_two post a1 fO fU fW fG fL len size) : Met l yn_L_two ws_L_two rm_L_two (va_Pc [.ref h0, .int a1] (pc_H (dC, dI) (ty_4 cJ cI cZ cB) (wd_X h0 qO qU qW qG qN qL cJ cI cZ cB fO fU fW fG fL len size) sz)) (qi_X dC dI cJ cI cZ cB h0 qO qU qW qG qN qL post (va_A (wd_X h0 qO qU qW qG qN qL cJ cI cZ cB fO fU fW fG fL len size) sz)) 1 6 (va_A (wd_X h0 qO qU qW qG qN qL cJ cI cZ cB fO fU fW fG fL len size) sz) := by
  refine va_MetW (cc := cd_L_two) (maxL := 3) (ret := (some .int)) (by decide) rfl ?_
  intro p e s m args below meth c s₁ B hml hv
  obtain ⟨rfl, ⟨⟨hsz, hP, hK, hD0, hE⟩, hZ⟩, hC⟩ := hv
  have hx := B.exec
  have hb := B.bytes
  have hr := B.returns
  have hts := atoms_spec (ws := ws_L_two) B.pre
  have hq : ∀ {w : Cond}, w ∈ wg_all → w.before ([.ref h0, .int a1] : List Value).toArray s = true := fun h => hts _ (List.mem_cons_of_mem _ h)
  have hu : ∀ L : List Cond, (∀ w ∈ L, w ∈ wg_all) → ∀ w ∈ L, w ∈ ws_L_two := fun L h w hw => List.mem_cons_of_mem _ (h w hw)
  have hown : s.vm.findClass "FourWordsLaw" = some m.cls := findClass_of_methodNamed B.named
  have hlocks := B.notSynchronized
  subst hsz
  have hD := hD0.self (sz := s.heap.size)
  have htab : c.exceptionTable.toList = [⟨0, 5, 8, 13⟩, ⟨0, 5, 11, 15⟩] := vx_table (x := yn_L_two) B (hts _ List.mem_cons_self)
  generalize hAe : va_A (wd_X h0 qO qU qW qG qN qL cJ cI cZ cB fO fU fW fG fL len size) s.heap.size = A at hD hZ ⊢
  have hA : ∀ q : Nat, s.heap.size ≤ q → A q := fun q h => by rw [← hAe]; exact Or.inr h
  have hS : va_S A s.heap s.heap [] := va_S.rf
  have hl := lv_entry [.ref h0, .int a1] (n := 3) (Nat.le_of_ble_eq_true rfl)
  rw [lg_entry_eq]
  generalize (lg_sl [.ref h0, .int a1] ++ List.replicate (3 - (lg_sl [.ref h0, .int a1]).length) Slot.unset).toArray = ls at hl ⊢
  have hl : lv_has ls 3 [(0, .ref h0), (1, .int a1)] := hl
  unfold wp_L_two at hw
  refine lv_aload_n hx hb dc_L_two_0 rfl (lv_at hl 0 rfl) ?_
  refine lv_iload_n hx hb dc_L_two_1 rfl (lv_at hl 1 rfl) ?_
  refine gx_v (S := (Nat → Int64) × (Nat → Int64) × (Nat → Int32) × (Nat → Int32) × (Nat → Int32) × Int32 × Int32) (w1 := (fun u => (wd_X h0 qO qU qW qG qN qL cJ cI cZ cB u.1 u.2.1 u.2.2.1 u.2.2.2.1 u.2.2.2.2.1 u.2.2.2.2.2.1 u.2.2.2.2.2.2))) (w2 := (fun u => (wd_X h0 qO qU qW qG qN qL cJ cI cZ cB u.2.1 u.2.2.1 u.2.2.2.1 u.2.2.2.2.1 u.2.2.2.2.2.1 u.2.2.2.2.2.2.1 u.2.2.2.2.2.2.2))) (wc := (wd_X h0 qO qU qW qG qN qL cJ cI cZ cB fO fU fW fG fL len size)) (wr := ([] : va_W)) (vx_runV (As := [.int a1]) (rest := []) ⟨hx, hb, hml, hown, hts⟩ (kt_X_two l hlt dC dI cJ cI cZ cB h0 qO qU qW qG qN qL _ a1 fO fU fW fG fL len size _ _ hw) ⟨callB_of 1 hts (gw_in mw_t180) rfl rfl rfl (hq mw_t1) (hq mw_t177) (by decide +kernel) ⟨Nat.le_of_ble_eq_true rfl, Nat.le_of_ble_eq_true rfl⟩, hq mw_t178, hq mw_t179⟩ (pq_W (va_recv (q0 := 0) (ci := 1) hK hP rfl rfl) (hP.sub (ws' := (wd_X h0 qO qU qW qG qN qL cJ cI cZ cB fO fU fW fG fL len size)) [0, 1, 2, 3, 4, 5, 6] rfl) hK (hD.sub (ws' := (wd_X h0 qO qU qW qG qN qL cJ cI cZ cB fO fU fW fG fL len size)) [0, 1, 2, 3, 4, 5, 6] (by decide) rfl) hE (zz_W hZ hS (va_free (wc := (wd_X h0 qO qU qW qG qN qL cJ cI cZ cB fO fU fW fG fL len size)) hD hS hA [0, 1, 2, 3, 4, 5, 6] rfl))) rfl rfl hl.1 rfl (lv_room (Nat.le_of_ble_eq_true rfl)) dc_L_two_2 ⟨Nat.le_of_ble_eq_true rfl, Nat.le_of_ble_eq_true rfl⟩) hP hD hS hA [0, 1, 2, 3, 4, 5, 6] [] rfl rfl (by decide) (by decide) (fun u H locs hw hP hD hS => ?_) (fun E9 u q9 ce H locs hw hP hD hS hce hcv hcl => ?_)
  · obtain ⟨fO2, fU2, fW2, fG2, fL2, len2, size2⟩ := u
    have hP : va_P (dC, dI) cs_3 (wd_X h0 qO qU qW qG qN qL cJ cI cZ cB fO2 fU2 fW2 fG2 fL2 len2 size2) H := hP.sub (ws' := (wd_X h0 qO qU qW qG qN qL cJ cI cZ cB fO2 fU2 fW2 fG2 fL2 len2 size2)) [0, 1, 2, 3, 4, 5, 6] rfl
    have hD : va_D A (wd_X h0 qO qU qW qG qN qL cJ cI cZ cB fO2 fU2 fW2 fG2 fL2 len2 size2) := hD.sub (ws' := (wd_X h0 qO qU qW qG qN qL cJ cI cZ cB fO2 fU2 fW2 fG2 fL2 len2 size2)) [0, 1, 2, 3, 4, 5, 6] (by decide) rfl
    try dsimp only at hw
    refine lv_goto (tgt := 14) hx hb dc_L_two_5 (by decide) ?_
    refine lv_iconst (v := 0) hx hb dc_L_two_14 (by decide) ?_
    exact W.iret (v := (0 : Int32)) hx hb hr (fun t ht hW => ⟨⟨(0 : Int32), (fO2, fU2, fW2, fG2, fL2, len2, size2), rfl, hw, by rw [ht]; exact hP, va_K.moved hW.alike hK, hD⟩, hS.F ht⟩) hS.2.2 dc_L_two_15
  · obtain ⟨fO2x, fU2x, fW2x, fG2x, fL2x, len2x, size2x⟩ := u
    try dsimp only at hw
    rcases hw with ⟨rfl, hw⟩ | ⟨rfl, hw⟩
    · have hP : va_P (dC, dI) cs_3 (wd_X h0 qO qU qW qG qN qL cJ cI cZ cB fO2x fU2x fW2x fG2x fL2x len2x size2x) H := hP.sub (ws' := (wd_X h0 qO qU qW qG qN qL cJ cI cZ cB fO2x fU2x fW2x fG2x fL2x len2x size2x)) [0, 1, 2, 3, 4, 5, 6] rfl
      have hD : va_D A (wd_X h0 qO qU qW qG qN qL cJ cI cZ cB fO2x fU2x fW2x fG2x fL2x len2x size2x) := hD.sub (ws' := (wd_X h0 qO qU qW qG qN qL cJ cI cZ cB fO2x fU2x fW2x fG2x fL2x len2x size2x)) [0, 1, 2, 3, 4, 5, 6] (by decide) rfl
      refine vx_catch hown [] ⟨0, 5, 8, 13⟩ [⟨0, 5, 11, 15⟩] htab (fun z hz => (List.not_mem_nil hz).elim) (by decide) (by decide) (hq mw_t66) (va_Nw.use rfl (en_C77 hE)) hce hcv hcl ?_
      refine lv_astore_n (lv' := [(2, .ref q9), (0, .ref h0), (1, .int a1)]) hx hb dc_L_two_8 rfl hl (Nat.le_of_ble_eq_true rfl) rfl (fun ls hl => ?_)
      refine lv_iconst (v := 1) hx hb dc_L_two_9 (by decide) ?_
      exact W.iret (v := (1 : Int32)) hx hb hr (fun t ht hW => ⟨⟨(1 : Int32), (fO2x, fU2x, fW2x, fG2x, fL2x, len2x, size2x), rfl, hw, by rw [ht]; exact hP, va_K.moved hW.alike hK, hD⟩, hS.F ht⟩) hS.2.2 dc_L_two_10
    · have hP : va_P (dC, dI) cs_3 (wd_X h0 qO qU qW qG qN qL cJ cI cZ cB fO2x fU2x fW2x fG2x fL2x len2x size2x) H := hP.sub (ws' := (wd_X h0 qO qU qW qG qN qL cJ cI cZ cB fO2x fU2x fW2x fG2x fL2x len2x size2x)) [0, 1, 2, 3, 4, 5, 6] rfl
      have hD : va_D A (wd_X h0 qO qU qW qG qN qL cJ cI cZ cB fO2x fU2x fW2x fG2x fL2x len2x size2x) := hD.sub (ws' := (wd_X h0 qO qU qW qG qN qL cJ cI cZ cB fO2x fU2x fW2x fG2x fL2x len2x size2x)) [0, 1, 2, 3, 4, 5, 6] (by decide) rfl
      refine vx_catch hown [⟨0, 5, 8, 13⟩] ⟨0, 5, 11, 15⟩ [] htab (fun z hz => by obtain rfl := List.mem_singleton.mp hz; exact Or.inr ⟨by decide, "java/lang/IllegalArgumentException", hq mw_t66, hC⟩) (by decide) (by decide) (hq mw_t67) (va_Nw.use rfl (en_C148 hE)) hce hcv hcl ?_
      refine lv_astore_n (lv' := [(2, .ref q9), (0, .ref h0), (1, .int a1)]) hx hb dc_L_two_11 rfl hl (Nat.le_of_ble_eq_true rfl) rfl (fun ls hl => ?_)
      refine lv_iconst (v := 2) hx hb dc_L_two_12 (by decide) ?_
      exact W.iret (v := (2 : Int32)) hx hb hr (fun t ht hW => ⟨⟨(2 : Int32), (fO2x, fU2x, fW2x, fG2x, fL2x, len2x, size2x), rfl, hw, by rw [ht]; exact hP, va_K.moved hW.alike hK, hD⟩, hS.F ht⟩) hS.2.2 dc_L_two_13
set_option maxHeartbeats 4000000 in
set_option maxRecDepth 100000 in
theorem kt_L_shift (l : Launch) (hlt : l.stackTraces = false) (dC : Nat → ClassId) (dI : Nat → Nat → Nat) (cJ cI cZ cB : ClassId) (h0 qO qU qW qG qN qL : Nat) (sz : Nat) (a1 : Int32) (fO : (Nat → Int64)) (fU : (Nat → Int64)) (fW : (Nat → Int32)) (fG : (Nat → Int32)) (fL : (Nat → Int32)) (len : Int32) (size : Int32) (post : Int32 → (Nat → Int64) → (Nat → Int64) → (Nat → Int32) → (Nat → Int32) → (Nat → Int32) → Int32 → Int32 → Prop) (hw : wp_L_shift post a1 fO fU fW fG fL len size) : Met l yn_L_shift ws_L_shift rm_L_shift (va_Pc [.ref h0, .int a1] (pc_H (dC, dI) (ty_4 cJ cI cZ cB) (wd_X h0 qO qU qW qG qN qL cJ cI cZ cB fO fU fW fG fL len size) sz)) (qi_X dC dI cJ cI cZ cB h0 qO qU qW qG qN qL post (va_A (wd_X h0 qO qU qW qG qN qL cJ cI cZ cB fO fU fW fG fL len size) sz)) 1 6 (va_A (wd_X h0 qO qU qW qG qN qL cJ cI cZ cB fO fU fW fG fL len size) sz) := by
  refine va_MetW (cc := cd_L_shift) (maxL := 3) (ret := (some .int)) (by decide) rfl ?_
  intro p e s m args below meth c s₁ B hml hv
  obtain ⟨rfl, ⟨⟨hsz, hP, hK, hD0, hE⟩, hZ⟩, hC⟩ := hv
  have hx := B.exec
  have hb := B.bytes
  have hr := B.returns
  have hts := atoms_spec (ws := ws_L_shift) B.pre
  have hq : ∀ {w : Cond}, w ∈ wg_all → w.before ([.ref h0, .int a1] : List Value).toArray s = true := fun h => hts _ (List.mem_cons_of_mem _ h)
  have hu : ∀ L : List Cond, (∀ w ∈ L, w ∈ wg_all) → ∀ w ∈ L, w ∈ ws_L_shift := fun L h w hw => List.mem_cons_of_mem _ (h w hw)
  have hown : s.vm.findClass "FourWordsLaw" = some m.cls := findClass_of_methodNamed B.named
  have hlocks := B.notSynchronized
  subst hsz
  have hD := hD0.self (sz := s.heap.size)
  have htab : c.exceptionTable.toList = [⟨0, 5, 8, 13⟩, ⟨0, 5, 11, 15⟩] := vx_table (x := yn_L_shift) B (hts _ List.mem_cons_self)
  generalize hAe : va_A (wd_X h0 qO qU qW qG qN qL cJ cI cZ cB fO fU fW fG fL len size) s.heap.size = A at hD hZ ⊢
  have hA : ∀ q : Nat, s.heap.size ≤ q → A q := fun q h => by rw [← hAe]; exact Or.inr h
  have hS : va_S A s.heap s.heap [] := va_S.rf
  have hl := lv_entry [.ref h0, .int a1] (n := 3) (Nat.le_of_ble_eq_true rfl)
  rw [lg_entry_eq]
  generalize (lg_sl [.ref h0, .int a1] ++ List.replicate (3 - (lg_sl [.ref h0, .int a1]).length) Slot.unset).toArray = ls at hl ⊢
  have hl : lv_has ls 3 [(0, .ref h0), (1, .int a1)] := hl
  unfold wp_L_shift at hw
  refine lv_aload_n hx hb dc_L_shift_0 rfl (lv_at hl 0 rfl) ?_
  refine lv_iload_n hx hb dc_L_shift_1 rfl (lv_at hl 1 rfl) ?_
  refine gx_v (S := (Nat → Int64) × (Nat → Int64) × (Nat → Int32) × (Nat → Int32) × (Nat → Int32) × Int32 × Int32) (w1 := (fun u => (wd_X h0 qO qU qW qG qN qL cJ cI cZ cB u.1 u.2.1 u.2.2.1 u.2.2.2.1 u.2.2.2.2.1 u.2.2.2.2.2.1 u.2.2.2.2.2.2))) (w2 := (fun u => (wd_X h0 qO qU qW qG qN qL cJ cI cZ cB u.2.1 u.2.2.1 u.2.2.2.1 u.2.2.2.2.1 u.2.2.2.2.2.1 u.2.2.2.2.2.2.1 u.2.2.2.2.2.2.2))) (wc := (wd_X h0 qO qU qW qG qN qL cJ cI cZ cB fO fU fW fG fL len size)) (wr := ([] : va_W)) (vx_runV (As := [.int a1]) (rest := []) ⟨hx, hb, hml, hown, hts⟩ (kt_X_shift l hlt dC dI cJ cI cZ cB h0 qO qU qW qG qN qL _ a1 fO fU fW fG fL len size _ _ hw) ⟨callB_of 1 hts (gw_in mw_t273) rfl rfl rfl (hq mw_t1) (hq mw_t270) (by decide +kernel) ⟨Nat.le_of_ble_eq_true rfl, Nat.le_of_ble_eq_true rfl⟩, hq mw_t271, hq mw_t272⟩ (pq_W (va_recv (q0 := 0) (ci := 1) hK hP rfl rfl) (hP.sub (ws' := (wd_X h0 qO qU qW qG qN qL cJ cI cZ cB fO fU fW fG fL len size)) [0, 1, 2, 3, 4, 5, 6] rfl) hK (hD.sub (ws' := (wd_X h0 qO qU qW qG qN qL cJ cI cZ cB fO fU fW fG fL len size)) [0, 1, 2, 3, 4, 5, 6] (by decide) rfl) hE (zz_W hZ hS (va_free (wc := (wd_X h0 qO qU qW qG qN qL cJ cI cZ cB fO fU fW fG fL len size)) hD hS hA [0, 1, 2, 3, 4, 5, 6] rfl))) rfl rfl hl.1 rfl (lv_room (Nat.le_of_ble_eq_true rfl)) dc_L_shift_2 ⟨Nat.le_of_ble_eq_true rfl, Nat.le_of_ble_eq_true rfl⟩) hP hD hS hA [0, 1, 2, 3, 4, 5, 6] [] rfl rfl (by decide) (by decide) (fun u H locs hw hP hD hS => ?_) (fun E9 u q9 ce H locs hw hP hD hS hce hcv hcl => ?_)
  · obtain ⟨fO2, fU2, fW2, fG2, fL2, len2, size2⟩ := u
    have hP : va_P (dC, dI) cs_3 (wd_X h0 qO qU qW qG qN qL cJ cI cZ cB fO2 fU2 fW2 fG2 fL2 len2 size2) H := hP.sub (ws' := (wd_X h0 qO qU qW qG qN qL cJ cI cZ cB fO2 fU2 fW2 fG2 fL2 len2 size2)) [0, 1, 2, 3, 4, 5, 6] rfl
    have hD : va_D A (wd_X h0 qO qU qW qG qN qL cJ cI cZ cB fO2 fU2 fW2 fG2 fL2 len2 size2) := hD.sub (ws' := (wd_X h0 qO qU qW qG qN qL cJ cI cZ cB fO2 fU2 fW2 fG2 fL2 len2 size2)) [0, 1, 2, 3, 4, 5, 6] (by decide) rfl
    try dsimp only at hw
    refine lv_goto (tgt := 14) hx hb dc_L_shift_5 (by decide) ?_
    refine lv_iconst (v := 0) hx hb dc_L_shift_14 (by decide) ?_
    exact W.iret (v := (0 : Int32)) hx hb hr (fun t ht hW => ⟨⟨(0 : Int32), (fO2, fU2, fW2, fG2, fL2, len2, size2), rfl, hw, by rw [ht]; exact hP, va_K.moved hW.alike hK, hD⟩, hS.F ht⟩) hS.2.2 dc_L_shift_15
  · obtain ⟨fO2x, fU2x, fW2x, fG2x, fL2x, len2x, size2x⟩ := u
    try dsimp only at hw
    rcases hw with ⟨rfl, hw⟩ | ⟨rfl, hw⟩
    · have hP : va_P (dC, dI) cs_3 (wd_X h0 qO qU qW qG qN qL cJ cI cZ cB fO2x fU2x fW2x fG2x fL2x len2x size2x) H := hP.sub (ws' := (wd_X h0 qO qU qW qG qN qL cJ cI cZ cB fO2x fU2x fW2x fG2x fL2x len2x size2x)) [0, 1, 2, 3, 4, 5, 6] rfl
      have hD : va_D A (wd_X h0 qO qU qW qG qN qL cJ cI cZ cB fO2x fU2x fW2x fG2x fL2x len2x size2x) := hD.sub (ws' := (wd_X h0 qO qU qW qG qN qL cJ cI cZ cB fO2x fU2x fW2x fG2x fL2x len2x size2x)) [0, 1, 2, 3, 4, 5, 6] (by decide) rfl
      refine vx_catch hown [] ⟨0, 5, 8, 13⟩ [⟨0, 5, 11, 15⟩] htab (fun z hz => (List.not_mem_nil hz).elim) (by decide) (by decide) (hq mw_t66) (va_Nw.use rfl (en_C77 hE)) hce hcv hcl ?_
      refine lv_astore_n (lv' := [(2, .ref q9), (0, .ref h0), (1, .int a1)]) hx hb dc_L_shift_8 rfl hl (Nat.le_of_ble_eq_true rfl) rfl (fun ls hl => ?_)
      refine lv_iconst (v := 1) hx hb dc_L_shift_9 (by decide) ?_
      exact W.iret (v := (1 : Int32)) hx hb hr (fun t ht hW => ⟨⟨(1 : Int32), (fO2x, fU2x, fW2x, fG2x, fL2x, len2x, size2x), rfl, hw, by rw [ht]; exact hP, va_K.moved hW.alike hK, hD⟩, hS.F ht⟩) hS.2.2 dc_L_shift_10
    · have hP : va_P (dC, dI) cs_3 (wd_X h0 qO qU qW qG qN qL cJ cI cZ cB fO2x fU2x fW2x fG2x fL2x len2x size2x) H := hP.sub (ws' := (wd_X h0 qO qU qW qG qN qL cJ cI cZ cB fO2x fU2x fW2x fG2x fL2x len2x size2x)) [0, 1, 2, 3, 4, 5, 6] rfl
      have hD : va_D A (wd_X h0 qO qU qW qG qN qL cJ cI cZ cB fO2x fU2x fW2x fG2x fL2x len2x size2x) := hD.sub (ws' := (wd_X h0 qO qU qW qG qN qL cJ cI cZ cB fO2x fU2x fW2x fG2x fL2x len2x size2x)) [0, 1, 2, 3, 4, 5, 6] (by decide) rfl
      refine vx_catch hown [⟨0, 5, 8, 13⟩] ⟨0, 5, 11, 15⟩ [] htab (fun z hz => by obtain rfl := List.mem_singleton.mp hz; exact Or.inr ⟨by decide, "java/lang/IllegalArgumentException", hq mw_t66, hC⟩) (by decide) (by decide) (hq mw_t67) (va_Nw.use rfl (en_C148 hE)) hce hcv hcl ?_
      refine lv_astore_n (lv' := [(2, .ref q9), (0, .ref h0), (1, .int a1)]) hx hb dc_L_shift_11 rfl hl (Nat.le_of_ble_eq_true rfl) rfl (fun ls hl => ?_)
      refine lv_iconst (v := 2) hx hb dc_L_shift_12 (by decide) ?_
      exact W.iret (v := (2 : Int32)) hx hb hr (fun t ht hW => ⟨⟨(2 : Int32), (fO2x, fU2x, fW2x, fG2x, fL2x, len2x, size2x), rfl, hw, by rw [ht]; exact hP, va_K.moved hW.alike hK, hD⟩, hS.F ht⟩) hS.2.2 dc_L_shift_13
set_option maxHeartbeats 4000000 in
set_option maxRecDepth 100000 in
theorem kt_L_one (l : Launch) (hlt : l.stackTraces = false) (dC : Nat → ClassId) (dI : Nat → Nat → Nat) (cJ cI cZ cB : ClassId) (h0 qO qU qW qG qN qL : Nat) (sz : Nat) (a1 : Int32) (fO : (Nat → Int64)) (fU : (Nat → Int64)) (fW : (Nat → Int32)) (fG : (Nat → Int32)) (fL : (Nat → Int32)) (len : Int32) (size : Int32) (post : Int32 → (Nat → Int64) → (Nat → Int64) → (Nat → Int32) → (Nat → Int32) → (Nat → Int32) → Int32 → Int32 → Prop) (hw : wp_L_one post a1 fO fU fW fG fL len size) : Met l yn_L_one ws_L_one rm_L_one (va_Pc [.ref h0, .int a1] (pc_H (dC, dI) (ty_4 cJ cI cZ cB) (wd_X h0 qO qU qW qG qN qL cJ cI cZ cB fO fU fW fG fL len size) sz)) (qi_X dC dI cJ cI cZ cB h0 qO qU qW qG qN qL post (va_A (wd_X h0 qO qU qW qG qN qL cJ cI cZ cB fO fU fW fG fL len size) sz)) 1 6 (va_A (wd_X h0 qO qU qW qG qN qL cJ cI cZ cB fO fU fW fG fL len size) sz) := by
  refine va_MetW (cc := cd_L_one) (maxL := 3) (ret := (some .int)) (by decide) rfl ?_
  intro p e s m args below meth c s₁ B hml hv
  obtain ⟨rfl, ⟨⟨hsz, hP, hK, hD0, hE⟩, hZ⟩, hC⟩ := hv
  have hx := B.exec
  have hb := B.bytes
  have hr := B.returns
  have hts := atoms_spec (ws := ws_L_one) B.pre
  have hq : ∀ {w : Cond}, w ∈ wg_all → w.before ([.ref h0, .int a1] : List Value).toArray s = true := fun h => hts _ (List.mem_cons_of_mem _ h)
  have hu : ∀ L : List Cond, (∀ w ∈ L, w ∈ wg_all) → ∀ w ∈ L, w ∈ ws_L_one := fun L h w hw => List.mem_cons_of_mem _ (h w hw)
  have hown : s.vm.findClass "FourWordsLaw" = some m.cls := findClass_of_methodNamed B.named
  have hlocks := B.notSynchronized
  subst hsz
  have hD := hD0.self (sz := s.heap.size)
  have htab : c.exceptionTable.toList = [⟨0, 5, 8, 13⟩, ⟨0, 5, 11, 15⟩] := vx_table (x := yn_L_one) B (hts _ List.mem_cons_self)
  generalize hAe : va_A (wd_X h0 qO qU qW qG qN qL cJ cI cZ cB fO fU fW fG fL len size) s.heap.size = A at hD hZ ⊢
  have hA : ∀ q : Nat, s.heap.size ≤ q → A q := fun q h => by rw [← hAe]; exact Or.inr h
  have hS : va_S A s.heap s.heap [] := va_S.rf
  have hl := lv_entry [.ref h0, .int a1] (n := 3) (Nat.le_of_ble_eq_true rfl)
  rw [lg_entry_eq]
  generalize (lg_sl [.ref h0, .int a1] ++ List.replicate (3 - (lg_sl [.ref h0, .int a1]).length) Slot.unset).toArray = ls at hl ⊢
  have hl : lv_has ls 3 [(0, .ref h0), (1, .int a1)] := hl
  unfold wp_L_one at hw
  refine lv_aload_n hx hb dc_L_one_0 rfl (lv_at hl 0 rfl) ?_
  refine lv_iload_n hx hb dc_L_one_1 rfl (lv_at hl 1 rfl) ?_
  refine gx_v (S := (Nat → Int64) × (Nat → Int64) × (Nat → Int32) × (Nat → Int32) × (Nat → Int32) × Int32 × Int32) (w1 := (fun u => (wd_X h0 qO qU qW qG qN qL cJ cI cZ cB u.1 u.2.1 u.2.2.1 u.2.2.2.1 u.2.2.2.2.1 u.2.2.2.2.2.1 u.2.2.2.2.2.2))) (w2 := (fun u => (wd_X h0 qO qU qW qG qN qL cJ cI cZ cB u.2.1 u.2.2.1 u.2.2.2.1 u.2.2.2.2.1 u.2.2.2.2.2.1 u.2.2.2.2.2.2.1 u.2.2.2.2.2.2.2))) (wc := (wd_X h0 qO qU qW qG qN qL cJ cI cZ cB fO fU fW fG fL len size)) (wr := ([] : va_W)) (vx_runV (As := [.int a1]) (rest := []) ⟨hx, hb, hml, hown, hts⟩ (kt_X_one l hlt dC dI cJ cI cZ cB h0 qO qU qW qG qN qL _ a1 fO fU fW fG fL len size _ _ hw) ⟨callB_of 1 hts (gw_in mw_t289) rfl rfl rfl (hq mw_t1) (hq mw_t286) (by decide +kernel) ⟨Nat.le_of_ble_eq_true rfl, Nat.le_of_ble_eq_true rfl⟩, hq mw_t287, hq mw_t288⟩ (pq_W (va_recv (q0 := 0) (ci := 1) hK hP rfl rfl) (hP.sub (ws' := (wd_X h0 qO qU qW qG qN qL cJ cI cZ cB fO fU fW fG fL len size)) [0, 1, 2, 3, 4, 5, 6] rfl) hK (hD.sub (ws' := (wd_X h0 qO qU qW qG qN qL cJ cI cZ cB fO fU fW fG fL len size)) [0, 1, 2, 3, 4, 5, 6] (by decide) rfl) hE (zz_W hZ hS (va_free (wc := (wd_X h0 qO qU qW qG qN qL cJ cI cZ cB fO fU fW fG fL len size)) hD hS hA [0, 1, 2, 3, 4, 5, 6] rfl))) rfl rfl hl.1 rfl (lv_room (Nat.le_of_ble_eq_true rfl)) dc_L_one_2 ⟨Nat.le_of_ble_eq_true rfl, Nat.le_of_ble_eq_true rfl⟩) hP hD hS hA [0, 1, 2, 3, 4, 5, 6] [] rfl rfl (by decide) (by decide) (fun u H locs hw hP hD hS => ?_) (fun E9 u q9 ce H locs hw hP hD hS hce hcv hcl => ?_)
  · obtain ⟨fO2, fU2, fW2, fG2, fL2, len2, size2⟩ := u
    have hP : va_P (dC, dI) cs_3 (wd_X h0 qO qU qW qG qN qL cJ cI cZ cB fO2 fU2 fW2 fG2 fL2 len2 size2) H := hP.sub (ws' := (wd_X h0 qO qU qW qG qN qL cJ cI cZ cB fO2 fU2 fW2 fG2 fL2 len2 size2)) [0, 1, 2, 3, 4, 5, 6] rfl
    have hD : va_D A (wd_X h0 qO qU qW qG qN qL cJ cI cZ cB fO2 fU2 fW2 fG2 fL2 len2 size2) := hD.sub (ws' := (wd_X h0 qO qU qW qG qN qL cJ cI cZ cB fO2 fU2 fW2 fG2 fL2 len2 size2)) [0, 1, 2, 3, 4, 5, 6] (by decide) rfl
    try dsimp only at hw
    refine lv_goto (tgt := 14) hx hb dc_L_one_5 (by decide) ?_
    refine lv_iconst (v := 0) hx hb dc_L_one_14 (by decide) ?_
    exact W.iret (v := (0 : Int32)) hx hb hr (fun t ht hW => ⟨⟨(0 : Int32), (fO2, fU2, fW2, fG2, fL2, len2, size2), rfl, hw, by rw [ht]; exact hP, va_K.moved hW.alike hK, hD⟩, hS.F ht⟩) hS.2.2 dc_L_one_15
  · obtain ⟨fO2x, fU2x, fW2x, fG2x, fL2x, len2x, size2x⟩ := u
    try dsimp only at hw
    rcases hw with ⟨rfl, hw⟩ | ⟨rfl, hw⟩
    · have hP : va_P (dC, dI) cs_3 (wd_X h0 qO qU qW qG qN qL cJ cI cZ cB fO2x fU2x fW2x fG2x fL2x len2x size2x) H := hP.sub (ws' := (wd_X h0 qO qU qW qG qN qL cJ cI cZ cB fO2x fU2x fW2x fG2x fL2x len2x size2x)) [0, 1, 2, 3, 4, 5, 6] rfl
      have hD : va_D A (wd_X h0 qO qU qW qG qN qL cJ cI cZ cB fO2x fU2x fW2x fG2x fL2x len2x size2x) := hD.sub (ws' := (wd_X h0 qO qU qW qG qN qL cJ cI cZ cB fO2x fU2x fW2x fG2x fL2x len2x size2x)) [0, 1, 2, 3, 4, 5, 6] (by decide) rfl
      refine vx_catch hown [] ⟨0, 5, 8, 13⟩ [⟨0, 5, 11, 15⟩] htab (fun z hz => (List.not_mem_nil hz).elim) (by decide) (by decide) (hq mw_t66) (va_Nw.use rfl (en_C77 hE)) hce hcv hcl ?_
      refine lv_astore_n (lv' := [(2, .ref q9), (0, .ref h0), (1, .int a1)]) hx hb dc_L_one_8 rfl hl (Nat.le_of_ble_eq_true rfl) rfl (fun ls hl => ?_)
      refine lv_iconst (v := 1) hx hb dc_L_one_9 (by decide) ?_
      exact W.iret (v := (1 : Int32)) hx hb hr (fun t ht hW => ⟨⟨(1 : Int32), (fO2x, fU2x, fW2x, fG2x, fL2x, len2x, size2x), rfl, hw, by rw [ht]; exact hP, va_K.moved hW.alike hK, hD⟩, hS.F ht⟩) hS.2.2 dc_L_one_10
    · have hP : va_P (dC, dI) cs_3 (wd_X h0 qO qU qW qG qN qL cJ cI cZ cB fO2x fU2x fW2x fG2x fL2x len2x size2x) H := hP.sub (ws' := (wd_X h0 qO qU qW qG qN qL cJ cI cZ cB fO2x fU2x fW2x fG2x fL2x len2x size2x)) [0, 1, 2, 3, 4, 5, 6] rfl
      have hD : va_D A (wd_X h0 qO qU qW qG qN qL cJ cI cZ cB fO2x fU2x fW2x fG2x fL2x len2x size2x) := hD.sub (ws' := (wd_X h0 qO qU qW qG qN qL cJ cI cZ cB fO2x fU2x fW2x fG2x fL2x len2x size2x)) [0, 1, 2, 3, 4, 5, 6] (by decide) rfl
      refine vx_catch hown [⟨0, 5, 8, 13⟩] ⟨0, 5, 11, 15⟩ [] htab (fun z hz => by obtain rfl := List.mem_singleton.mp hz; exact Or.inr ⟨by decide, "java/lang/IllegalArgumentException", hq mw_t66, hC⟩) (by decide) (by decide) (hq mw_t67) (va_Nw.use rfl (en_C148 hE)) hce hcv hcl ?_
      refine lv_astore_n (lv' := [(2, .ref q9), (0, .ref h0), (1, .int a1)]) hx hb dc_L_one_11 rfl hl (Nat.le_of_ble_eq_true rfl) rfl (fun ls hl => ?_)
      refine lv_iconst (v := 2) hx hb dc_L_one_12 (by decide) ?_
      exact W.iret (v := (2 : Int32)) hx hb hr (fun t ht hW => ⟨⟨(2 : Int32), (fO2x, fU2x, fW2x, fG2x, fL2x, len2x, size2x), rfl, hw, by rw [ht]; exact hP, va_K.moved hW.alike hK, hD⟩, hS.F ht⟩) hS.2.2 dc_L_one_13
set_option maxHeartbeats 4000000 in
set_option maxRecDepth 100000 in
theorem kt_L_choose (l : Launch) (hlt : l.stackTraces = false) (dC : Nat → ClassId) (dI : Nat → Nat → Nat) (cJ cI cZ cB : ClassId) (h0 qO qU qW qG qN qL : Nat) (sz : Nat) (fO : (Nat → Int64)) (fU : (Nat → Int64)) (fW : (Nat → Int32)) (fG : (Nat → Int32)) (fL : (Nat → Int32)) (len : Int32) (size : Int32) (post : Int32 → (Nat → Int64) → (Nat → Int64) → (Nat → Int32) → (Nat → Int32) → (Nat → Int32) → Int32 → Int32 → Prop) (hw : wp_L_choose post fO fU fW fG fL len size) : Met l yn_L_choose ws_L_choose rm_L_choose (va_Pc [.ref h0] (pc_H (dC, dI) (ty_4 cJ cI cZ cB) (wd_X h0 qO qU qW qG qN qL cJ cI cZ cB fO fU fW fG fL len size) sz)) (qi_X dC dI cJ cI cZ cB h0 qO qU qW qG qN qL post (va_A (wd_X h0 qO qU qW qG qN qL cJ cI cZ cB fO fU fW fG fL len size) sz)) 1 6 (va_A (wd_X h0 qO qU qW qG qN qL cJ cI cZ cB fO fU fW fG fL len size) sz) := by
  refine va_MetW (cc := cd_L_choose) (maxL := 2) (ret := (some .int)) (by decide) rfl ?_
  intro p e s m args below meth c s₁ B hml hv
  obtain ⟨rfl, ⟨⟨hsz, hP, hK, hD0, hE⟩, hZ⟩, hC⟩ := hv
  have hx := B.exec
  have hb := B.bytes
  have hr := B.returns
  have hts := atoms_spec (ws := ws_L_choose) B.pre
  have hq : ∀ {w : Cond}, w ∈ wg_all → w.before ([.ref h0] : List Value).toArray s = true := fun h => hts _ (List.mem_cons_of_mem _ h)
  have hu : ∀ L : List Cond, (∀ w ∈ L, w ∈ wg_all) → ∀ w ∈ L, w ∈ ws_L_choose := fun L h w hw => List.mem_cons_of_mem _ (h w hw)
  have hown : s.vm.findClass "FourWordsLaw" = some m.cls := findClass_of_methodNamed B.named
  have hlocks := B.notSynchronized
  subst hsz
  have hD := hD0.self (sz := s.heap.size)
  have htab : c.exceptionTable.toList = [⟨0, 4, 7, 15⟩] := vx_table (x := yn_L_choose) B (hts _ List.mem_cons_self)
  generalize hAe : va_A (wd_X h0 qO qU qW qG qN qL cJ cI cZ cB fO fU fW fG fL len size) s.heap.size = A at hD hZ ⊢
  have hA : ∀ q : Nat, s.heap.size ≤ q → A q := fun q h => by rw [← hAe]; exact Or.inr h
  have hS : va_S A s.heap s.heap [] := va_S.rf
  have hl := lv_entry [.ref h0] (n := 2) (Nat.le_of_ble_eq_true rfl)
  rw [lg_entry_eq]
  generalize (lg_sl [.ref h0] ++ List.replicate (2 - (lg_sl [.ref h0]).length) Slot.unset).toArray = ls at hl ⊢
  have hl : lv_has ls 2 [(0, .ref h0)] := hl
  unfold wp_L_choose at hw
  refine lv_aload_n hx hb dc_L_choose_0 rfl (lv_at hl 0 rfl) ?_
  refine gx_v (S := (Nat → Int64) × (Nat → Int64) × (Nat → Int32) × (Nat → Int32) × (Nat → Int32) × Int32 × Int32) (w1 := (fun u => (wd_X h0 qO qU qW qG qN qL cJ cI cZ cB u.1 u.2.1 u.2.2.1 u.2.2.2.1 u.2.2.2.2.1 u.2.2.2.2.2.1 u.2.2.2.2.2.2))) (w2 := (fun u => (wd_X h0 qO qU qW qG qN qL cJ cI cZ cB u.2.1 u.2.2.1 u.2.2.2.1 u.2.2.2.2.1 u.2.2.2.2.2.1 u.2.2.2.2.2.2.1 u.2.2.2.2.2.2.2))) (wc := (wd_X h0 qO qU qW qG qN qL cJ cI cZ cB fO fU fW fG fL len size)) (wr := ([] : va_W)) (vx_runV (As := []) (rest := []) ⟨hx, hb, hml, hown, hts⟩ (kt_X_choose l hlt dC dI cJ cI cZ cB h0 qO qU qW qG qN qL _ fO fU fW fG fL len size _ _ hw) ⟨callB_of 0 hts (gw_in mw_t318) rfl rfl rfl (hq mw_t1) (hq mw_t315) (by decide +kernel) ⟨Nat.le_of_ble_eq_true rfl, Nat.le_of_ble_eq_true rfl⟩, hq mw_t316, hq mw_t317⟩ (pq_W (va_recv (q0 := 0) (ci := 1) hK hP rfl rfl) (hP.sub (ws' := (wd_X h0 qO qU qW qG qN qL cJ cI cZ cB fO fU fW fG fL len size)) [0, 1, 2, 3, 4, 5, 6] rfl) hK (hD.sub (ws' := (wd_X h0 qO qU qW qG qN qL cJ cI cZ cB fO fU fW fG fL len size)) [0, 1, 2, 3, 4, 5, 6] (by decide) rfl) hE (zz_W hZ hS (va_free (wc := (wd_X h0 qO qU qW qG qN qL cJ cI cZ cB fO fU fW fG fL len size)) hD hS hA [0, 1, 2, 3, 4, 5, 6] rfl))) rfl rfl hl.1 rfl (lv_room (Nat.le_of_ble_eq_true rfl)) dc_L_choose_1 ⟨Nat.le_of_ble_eq_true rfl, Nat.le_of_ble_eq_true rfl⟩) hP hD hS hA [0, 1, 2, 3, 4, 5, 6] [] rfl rfl (by decide) (by decide) (fun u H locs hw hP hD hS => ?_) (fun E9 u q9 ce H locs hw hP hD hS hce hcv hcl => ?_)
  · obtain ⟨fO1, fU1, fW1, fG1, fL1, len1, size1⟩ := u
    have hP : va_P (dC, dI) cs_3 (wd_X h0 qO qU qW qG qN qL cJ cI cZ cB fO1 fU1 fW1 fG1 fL1 len1 size1) H := hP.sub (ws' := (wd_X h0 qO qU qW qG qN qL cJ cI cZ cB fO1 fU1 fW1 fG1 fL1 len1 size1)) [0, 1, 2, 3, 4, 5, 6] rfl
    have hD : va_D A (wd_X h0 qO qU qW qG qN qL cJ cI cZ cB fO1 fU1 fW1 fG1 fL1 len1 size1) := hD.sub (ws' := (wd_X h0 qO qU qW qG qN qL cJ cI cZ cB fO1 fU1 fW1 fG1 fL1 len1 size1)) [0, 1, 2, 3, 4, 5, 6] (by decide) rfl
    try dsimp only at hw
    refine lv_goto (tgt := 10) hx hb dc_L_choose_4 (by decide) ?_
    refine lv_iconst (v := 0) hx hb dc_L_choose_10 (by decide) ?_
    exact W.iret (v := (0 : Int32)) hx hb hr (fun t ht hW => ⟨⟨(0 : Int32), (fO1, fU1, fW1, fG1, fL1, len1, size1), rfl, hw, by rw [ht]; exact hP, va_K.moved hW.alike hK, hD⟩, hS.F ht⟩) hS.2.2 dc_L_choose_11
  · obtain ⟨fO1x, fU1x, fW1x, fG1x, fL1x, len1x, size1x⟩ := u
    try dsimp only at hw
    obtain ⟨rfl, hw⟩ := hw
    have hP : va_P (dC, dI) cs_3 (wd_X h0 qO qU qW qG qN qL cJ cI cZ cB fO1x fU1x fW1x fG1x fL1x len1x size1x) H := hP.sub (ws' := (wd_X h0 qO qU qW qG qN qL cJ cI cZ cB fO1x fU1x fW1x fG1x fL1x len1x size1x)) [0, 1, 2, 3, 4, 5, 6] rfl
    have hD : va_D A (wd_X h0 qO qU qW qG qN qL cJ cI cZ cB fO1x fU1x fW1x fG1x fL1x len1x size1x) := hD.sub (ws' := (wd_X h0 qO qU qW qG qN qL cJ cI cZ cB fO1x fU1x fW1x fG1x fL1x len1x size1x)) [0, 1, 2, 3, 4, 5, 6] (by decide) rfl
    refine vx_catch hown [] ⟨0, 4, 7, 15⟩ [] htab (fun z hz => (List.not_mem_nil hz).elim) (by decide) (by decide) (hq mw_t67) (va_Nw.use rfl (en_C148 hE)) hce hcv hcl ?_
    refine lv_astore_n (lv' := [(1, .ref q9), (0, .ref h0)]) hx hb dc_L_choose_7 rfl hl (Nat.le_of_ble_eq_true rfl) rfl (fun ls hl => ?_)
    refine lv_iconst (v := 1) hx hb dc_L_choose_8 (by decide) ?_
    exact W.iret (v := (1 : Int32)) hx hb hr (fun t ht hW => ⟨⟨(1 : Int32), (fO1x, fU1x, fW1x, fG1x, fL1x, len1x, size1x), rfl, hw, by rw [ht]; exact hP, va_K.moved hW.alike hK, hD⟩, hS.F ht⟩) hS.2.2 dc_L_choose_9
set_option maxHeartbeats 4000000 in
set_option maxRecDepth 100000 in
theorem kt_L_join (l : Launch) (hlt : l.stackTraces = false) (dC : Nat → ClassId) (dI : Nat → Nat → Nat) (cJ cI cZ cB : ClassId) (h0 qO qU qW qG qN qL : Nat) (sz : Nat) (fO : (Nat → Int64)) (fU : (Nat → Int64)) (fW : (Nat → Int32)) (fG : (Nat → Int32)) (fL : (Nat → Int32)) (len : Int32) (size : Int32) (post : Int32 → (Nat → Int64) → (Nat → Int64) → (Nat → Int32) → (Nat → Int32) → (Nat → Int32) → Int32 → Int32 → Prop) (hw : wp_L_join post fO fU fW fG fL len size) : Met l yn_L_join ws_L_join rm_L_join (va_Pc [.ref h0] (pc_H (dC, dI) (ty_4 cJ cI cZ cB) (wd_X h0 qO qU qW qG qN qL cJ cI cZ cB fO fU fW fG fL len size) sz)) (qi_X dC dI cJ cI cZ cB h0 qO qU qW qG qN qL post (va_A (wd_X h0 qO qU qW qG qN qL cJ cI cZ cB fO fU fW fG fL len size) sz)) 1 6 (va_A (wd_X h0 qO qU qW qG qN qL cJ cI cZ cB fO fU fW fG fL len size) sz) := by
  refine va_MetW (cc := cd_L_join) (maxL := 2) (ret := (some .int)) (by decide) rfl ?_
  intro p e s m args below meth c s₁ B hml hv
  obtain ⟨rfl, ⟨⟨hsz, hP, hK, hD0, hE⟩, hZ⟩, hC⟩ := hv
  have hx := B.exec
  have hb := B.bytes
  have hr := B.returns
  have hts := atoms_spec (ws := ws_L_join) B.pre
  have hq : ∀ {w : Cond}, w ∈ wg_all → w.before ([.ref h0] : List Value).toArray s = true := fun h => hts _ (List.mem_cons_of_mem _ h)
  have hu : ∀ L : List Cond, (∀ w ∈ L, w ∈ wg_all) → ∀ w ∈ L, w ∈ ws_L_join := fun L h w hw => List.mem_cons_of_mem _ (h w hw)
  have hown : s.vm.findClass "FourWordsLaw" = some m.cls := findClass_of_methodNamed B.named
  have hlocks := B.notSynchronized
  subst hsz
  have hD := hD0.self (sz := s.heap.size)
  have htab : c.exceptionTable.toList = [⟨0, 4, 7, 13⟩, ⟨0, 4, 10, 15⟩] := vx_table (x := yn_L_join) B (hts _ List.mem_cons_self)
  generalize hAe : va_A (wd_X h0 qO qU qW qG qN qL cJ cI cZ cB fO fU fW fG fL len size) s.heap.size = A at hD hZ ⊢
  have hA : ∀ q : Nat, s.heap.size ≤ q → A q := fun q h => by rw [← hAe]; exact Or.inr h
  have hS : va_S A s.heap s.heap [] := va_S.rf
  have hl := lv_entry [.ref h0] (n := 2) (Nat.le_of_ble_eq_true rfl)
  rw [lg_entry_eq]
  generalize (lg_sl [.ref h0] ++ List.replicate (2 - (lg_sl [.ref h0]).length) Slot.unset).toArray = ls at hl ⊢
  have hl : lv_has ls 2 [(0, .ref h0)] := hl
  unfold wp_L_join at hw
  refine lv_aload_n hx hb dc_L_join_0 rfl (lv_at hl 0 rfl) ?_
  refine gx_v (S := (Nat → Int64) × (Nat → Int64) × (Nat → Int32) × (Nat → Int32) × (Nat → Int32) × Int32 × Int32) (w1 := (fun u => (wd_X h0 qO qU qW qG qN qL cJ cI cZ cB u.1 u.2.1 u.2.2.1 u.2.2.2.1 u.2.2.2.2.1 u.2.2.2.2.2.1 u.2.2.2.2.2.2))) (w2 := (fun u => (wd_X h0 qO qU qW qG qN qL cJ cI cZ cB u.2.1 u.2.2.1 u.2.2.2.1 u.2.2.2.2.1 u.2.2.2.2.2.1 u.2.2.2.2.2.2.1 u.2.2.2.2.2.2.2))) (wc := (wd_X h0 qO qU qW qG qN qL cJ cI cZ cB fO fU fW fG fL len size)) (wr := ([] : va_W)) (vx_runV (As := []) (rest := []) ⟨hx, hb, hml, hown, hts⟩ (kt_X_join l hlt dC dI cJ cI cZ cB h0 qO qU qW qG qN qL _ fO fU fW fG fL len size _ _ hw) ⟨callB_of 0 hts (gw_in mw_t329) rfl rfl rfl (hq mw_t1) (hq mw_t326) (by decide +kernel) ⟨Nat.le_of_ble_eq_true rfl, Nat.le_of_ble_eq_true rfl⟩, hq mw_t327, hq mw_t328⟩ (pq_W (va_recv (q0 := 0) (ci := 1) hK hP rfl rfl) (hP.sub (ws' := (wd_X h0 qO qU qW qG qN qL cJ cI cZ cB fO fU fW fG fL len size)) [0, 1, 2, 3, 4, 5, 6] rfl) hK (hD.sub (ws' := (wd_X h0 qO qU qW qG qN qL cJ cI cZ cB fO fU fW fG fL len size)) [0, 1, 2, 3, 4, 5, 6] (by decide) rfl) hE (zz_W hZ hS (va_free (wc := (wd_X h0 qO qU qW qG qN qL cJ cI cZ cB fO fU fW fG fL len size)) hD hS hA [0, 1, 2, 3, 4, 5, 6] rfl))) rfl rfl hl.1 rfl (lv_room (Nat.le_of_ble_eq_true rfl)) dc_L_join_1 ⟨Nat.le_of_ble_eq_true rfl, Nat.le_of_ble_eq_true rfl⟩) hP hD hS hA [0, 1, 2, 3, 4, 5, 6] [] rfl rfl (by decide) (by decide) (fun u H locs hw hP hD hS => ?_) (fun E9 u q9 ce H locs hw hP hD hS hce hcv hcl => ?_)
  · obtain ⟨fO1, fU1, fW1, fG1, fL1, len1, size1⟩ := u
    have hP : va_P (dC, dI) cs_3 (wd_X h0 qO qU qW qG qN qL cJ cI cZ cB fO1 fU1 fW1 fG1 fL1 len1 size1) H := hP.sub (ws' := (wd_X h0 qO qU qW qG qN qL cJ cI cZ cB fO1 fU1 fW1 fG1 fL1 len1 size1)) [0, 1, 2, 3, 4, 5, 6] rfl
    have hD : va_D A (wd_X h0 qO qU qW qG qN qL cJ cI cZ cB fO1 fU1 fW1 fG1 fL1 len1 size1) := hD.sub (ws' := (wd_X h0 qO qU qW qG qN qL cJ cI cZ cB fO1 fU1 fW1 fG1 fL1 len1 size1)) [0, 1, 2, 3, 4, 5, 6] (by decide) rfl
    try dsimp only at hw
    refine lv_goto (tgt := 13) hx hb dc_L_join_4 (by decide) ?_
    refine lv_iconst (v := 0) hx hb dc_L_join_13 (by decide) ?_
    exact W.iret (v := (0 : Int32)) hx hb hr (fun t ht hW => ⟨⟨(0 : Int32), (fO1, fU1, fW1, fG1, fL1, len1, size1), rfl, hw, by rw [ht]; exact hP, va_K.moved hW.alike hK, hD⟩, hS.F ht⟩) hS.2.2 dc_L_join_14
  · obtain ⟨fO1x, fU1x, fW1x, fG1x, fL1x, len1x, size1x⟩ := u
    try dsimp only at hw
    rcases hw with ⟨rfl, hw⟩ | ⟨rfl, hw⟩
    · have hP : va_P (dC, dI) cs_3 (wd_X h0 qO qU qW qG qN qL cJ cI cZ cB fO1x fU1x fW1x fG1x fL1x len1x size1x) H := hP.sub (ws' := (wd_X h0 qO qU qW qG qN qL cJ cI cZ cB fO1x fU1x fW1x fG1x fL1x len1x size1x)) [0, 1, 2, 3, 4, 5, 6] rfl
      have hD : va_D A (wd_X h0 qO qU qW qG qN qL cJ cI cZ cB fO1x fU1x fW1x fG1x fL1x len1x size1x) := hD.sub (ws' := (wd_X h0 qO qU qW qG qN qL cJ cI cZ cB fO1x fU1x fW1x fG1x fL1x len1x size1x)) [0, 1, 2, 3, 4, 5, 6] (by decide) rfl
      refine vx_catch hown [] ⟨0, 4, 7, 13⟩ [⟨0, 4, 10, 15⟩] htab (fun z hz => (List.not_mem_nil hz).elim) (by decide) (by decide) (hq mw_t66) (va_Nw.use rfl (en_C77 hE)) hce hcv hcl ?_
      refine lv_astore_n (lv' := [(1, .ref q9), (0, .ref h0)]) hx hb dc_L_join_7 rfl hl (Nat.le_of_ble_eq_true rfl) rfl (fun ls hl => ?_)
      refine lv_iconst (v := 1) hx hb dc_L_join_8 (by decide) ?_
      exact W.iret (v := (1 : Int32)) hx hb hr (fun t ht hW => ⟨⟨(1 : Int32), (fO1x, fU1x, fW1x, fG1x, fL1x, len1x, size1x), rfl, hw, by rw [ht]; exact hP, va_K.moved hW.alike hK, hD⟩, hS.F ht⟩) hS.2.2 dc_L_join_9
    · have hP : va_P (dC, dI) cs_3 (wd_X h0 qO qU qW qG qN qL cJ cI cZ cB fO1x fU1x fW1x fG1x fL1x len1x size1x) H := hP.sub (ws' := (wd_X h0 qO qU qW qG qN qL cJ cI cZ cB fO1x fU1x fW1x fG1x fL1x len1x size1x)) [0, 1, 2, 3, 4, 5, 6] rfl
      have hD : va_D A (wd_X h0 qO qU qW qG qN qL cJ cI cZ cB fO1x fU1x fW1x fG1x fL1x len1x size1x) := hD.sub (ws' := (wd_X h0 qO qU qW qG qN qL cJ cI cZ cB fO1x fU1x fW1x fG1x fL1x len1x size1x)) [0, 1, 2, 3, 4, 5, 6] (by decide) rfl
      refine vx_catch hown [⟨0, 4, 7, 13⟩] ⟨0, 4, 10, 15⟩ [] htab (fun z hz => by obtain rfl := List.mem_singleton.mp hz; exact Or.inr ⟨by decide, "java/lang/IllegalArgumentException", hq mw_t66, hC⟩) (by decide) (by decide) (hq mw_t67) (va_Nw.use rfl (en_C148 hE)) hce hcv hcl ?_
      refine lv_astore_n (lv' := [(1, .ref q9), (0, .ref h0)]) hx hb dc_L_join_10 rfl hl (Nat.le_of_ble_eq_true rfl) rfl (fun ls hl => ?_)
      refine lv_iconst (v := 2) hx hb dc_L_join_11 (by decide) ?_
      exact W.iret (v := (2 : Int32)) hx hb hr (fun t ht hW => ⟨⟨(2 : Int32), (fO1x, fU1x, fW1x, fG1x, fL1x, len1x, size1x), rfl, hw, by rw [ht]; exact hP, va_K.moved hW.alike hK, hD⟩, hS.F ht⟩) hS.2.2 dc_L_join_12
set_option maxHeartbeats 4000000 in
set_option maxRecDepth 100000 in
theorem kt_L_copies (l : Launch) (hlt : l.stackTraces = false) (dC : Nat → ClassId) (dI : Nat → Nat → Nat) (cJ cI cZ cB : ClassId) (h0 qO qU qW qG qN qL : Nat) (sz : Nat) (a1 : Int32) (fO : (Nat → Int64)) (fU : (Nat → Int64)) (fW : (Nat → Int32)) (fG : (Nat → Int32)) (fL : (Nat → Int32)) (len : Int32) (size : Int32) (post : Int32 → (Nat → Int64) → (Nat → Int64) → (Nat → Int32) → (Nat → Int32) → (Nat → Int32) → Int32 → Int32 → Prop) (hw : wp_L_copies post a1 fO fU fW fG fL len size) : Met l yn_L_copies ws_L_copies rm_L_copies (va_Pc [.ref h0, .int a1] (pc_H (dC, dI) (ty_4 cJ cI cZ cB) (wd_X h0 qO qU qW qG qN qL cJ cI cZ cB fO fU fW fG fL len size) sz)) (qi_X dC dI cJ cI cZ cB h0 qO qU qW qG qN qL post (va_A (wd_X h0 qO qU qW qG qN qL cJ cI cZ cB fO fU fW fG fL len size) sz)) 1 6 (va_A (wd_X h0 qO qU qW qG qN qL cJ cI cZ cB fO fU fW fG fL len size) sz) := by
  refine va_MetW (cc := cd_L_copies) (maxL := 3) (ret := (some .int)) (by decide) rfl ?_
  intro p e s m args below meth c s₁ B hml hv
  obtain ⟨rfl, ⟨⟨hsz, hP, hK, hD0, hE⟩, hZ⟩, hC⟩ := hv
  have hx := B.exec
  have hb := B.bytes
  have hr := B.returns
  have hts := atoms_spec (ws := ws_L_copies) B.pre
  have hq : ∀ {w : Cond}, w ∈ wg_all → w.before ([.ref h0, .int a1] : List Value).toArray s = true := fun h => hts _ (List.mem_cons_of_mem _ h)
  have hu : ∀ L : List Cond, (∀ w ∈ L, w ∈ wg_all) → ∀ w ∈ L, w ∈ ws_L_copies := fun L h w hw => List.mem_cons_of_mem _ (h w hw)
  have hown : s.vm.findClass "FourWordsLaw" = some m.cls := findClass_of_methodNamed B.named
  have hlocks := B.notSynchronized
  subst hsz
  have hD := hD0.self (sz := s.heap.size)
  have htab : c.exceptionTable.toList = [⟨0, 5, 8, 13⟩, ⟨0, 5, 11, 15⟩] := vx_table (x := yn_L_copies) B (hts _ List.mem_cons_self)
  generalize hAe : va_A (wd_X h0 qO qU qW qG qN qL cJ cI cZ cB fO fU fW fG fL len size) s.heap.size = A at hD hZ ⊢
  have hA : ∀ q : Nat, s.heap.size ≤ q → A q := fun q h => by rw [← hAe]; exact Or.inr h
  have hS : va_S A s.heap s.heap [] := va_S.rf
  have hl := lv_entry [.ref h0, .int a1] (n := 3) (Nat.le_of_ble_eq_true rfl)
  rw [lg_entry_eq]
  generalize (lg_sl [.ref h0, .int a1] ++ List.replicate (3 - (lg_sl [.ref h0, .int a1]).length) Slot.unset).toArray = ls at hl ⊢
  have hl : lv_has ls 3 [(0, .ref h0), (1, .int a1)] := hl
  unfold wp_L_copies at hw
  refine lv_aload_n hx hb dc_L_copies_0 rfl (lv_at hl 0 rfl) ?_
  refine lv_iload_n hx hb dc_L_copies_1 rfl (lv_at hl 1 rfl) ?_
  refine gx_v (S := (Nat → Int64) × (Nat → Int64) × (Nat → Int32) × (Nat → Int32) × (Nat → Int32) × Int32 × Int32) (w1 := (fun u => (wd_X h0 qO qU qW qG qN qL cJ cI cZ cB u.1 u.2.1 u.2.2.1 u.2.2.2.1 u.2.2.2.2.1 u.2.2.2.2.2.1 u.2.2.2.2.2.2))) (w2 := (fun u => (wd_X h0 qO qU qW qG qN qL cJ cI cZ cB u.2.1 u.2.2.1 u.2.2.2.1 u.2.2.2.2.1 u.2.2.2.2.2.1 u.2.2.2.2.2.2.1 u.2.2.2.2.2.2.2))) (wc := (wd_X h0 qO qU qW qG qN qL cJ cI cZ cB fO fU fW fG fL len size)) (wr := ([] : va_W)) (vx_runV (As := [.int a1]) (rest := []) ⟨hx, hb, hml, hown, hts⟩ (kt_X_copies l hlt dC dI cJ cI cZ cB h0 qO qU qW qG qN qL _ a1 fO fU fW fG fL len size _ _ hw) ⟨callB_of 1 hts (gw_in mw_t336) rfl rfl rfl (hq mw_t1) (hq mw_t333) (by decide +kernel) ⟨Nat.le_of_ble_eq_true rfl, Nat.le_of_ble_eq_true rfl⟩, hq mw_t334, hq mw_t335⟩ (pq_W (va_recv (q0 := 0) (ci := 1) hK hP rfl rfl) (hP.sub (ws' := (wd_X h0 qO qU qW qG qN qL cJ cI cZ cB fO fU fW fG fL len size)) [0, 1, 2, 3, 4, 5, 6] rfl) hK (hD.sub (ws' := (wd_X h0 qO qU qW qG qN qL cJ cI cZ cB fO fU fW fG fL len size)) [0, 1, 2, 3, 4, 5, 6] (by decide) rfl) hE (zz_W hZ hS (va_free (wc := (wd_X h0 qO qU qW qG qN qL cJ cI cZ cB fO fU fW fG fL len size)) hD hS hA [0, 1, 2, 3, 4, 5, 6] rfl))) rfl rfl hl.1 rfl (lv_room (Nat.le_of_ble_eq_true rfl)) dc_L_copies_2 ⟨Nat.le_of_ble_eq_true rfl, Nat.le_of_ble_eq_true rfl⟩) hP hD hS hA [0, 1, 2, 3, 4, 5, 6] [] rfl rfl (by decide) (by decide) (fun u H locs hw hP hD hS => ?_) (fun E9 u q9 ce H locs hw hP hD hS hce hcv hcl => ?_)
  · obtain ⟨fO2, fU2, fW2, fG2, fL2, len2, size2⟩ := u
    have hP : va_P (dC, dI) cs_3 (wd_X h0 qO qU qW qG qN qL cJ cI cZ cB fO2 fU2 fW2 fG2 fL2 len2 size2) H := hP.sub (ws' := (wd_X h0 qO qU qW qG qN qL cJ cI cZ cB fO2 fU2 fW2 fG2 fL2 len2 size2)) [0, 1, 2, 3, 4, 5, 6] rfl
    have hD : va_D A (wd_X h0 qO qU qW qG qN qL cJ cI cZ cB fO2 fU2 fW2 fG2 fL2 len2 size2) := hD.sub (ws' := (wd_X h0 qO qU qW qG qN qL cJ cI cZ cB fO2 fU2 fW2 fG2 fL2 len2 size2)) [0, 1, 2, 3, 4, 5, 6] (by decide) rfl
    try dsimp only at hw
    refine lv_goto (tgt := 14) hx hb dc_L_copies_5 (by decide) ?_
    refine lv_iconst (v := 0) hx hb dc_L_copies_14 (by decide) ?_
    exact W.iret (v := (0 : Int32)) hx hb hr (fun t ht hW => ⟨⟨(0 : Int32), (fO2, fU2, fW2, fG2, fL2, len2, size2), rfl, hw, by rw [ht]; exact hP, va_K.moved hW.alike hK, hD⟩, hS.F ht⟩) hS.2.2 dc_L_copies_15
  · obtain ⟨fO2x, fU2x, fW2x, fG2x, fL2x, len2x, size2x⟩ := u
    try dsimp only at hw
    rcases hw with ⟨rfl, hw⟩ | ⟨rfl, hw⟩
    · have hP : va_P (dC, dI) cs_3 (wd_X h0 qO qU qW qG qN qL cJ cI cZ cB fO2x fU2x fW2x fG2x fL2x len2x size2x) H := hP.sub (ws' := (wd_X h0 qO qU qW qG qN qL cJ cI cZ cB fO2x fU2x fW2x fG2x fL2x len2x size2x)) [0, 1, 2, 3, 4, 5, 6] rfl
      have hD : va_D A (wd_X h0 qO qU qW qG qN qL cJ cI cZ cB fO2x fU2x fW2x fG2x fL2x len2x size2x) := hD.sub (ws' := (wd_X h0 qO qU qW qG qN qL cJ cI cZ cB fO2x fU2x fW2x fG2x fL2x len2x size2x)) [0, 1, 2, 3, 4, 5, 6] (by decide) rfl
      refine vx_catch hown [] ⟨0, 5, 8, 13⟩ [⟨0, 5, 11, 15⟩] htab (fun z hz => (List.not_mem_nil hz).elim) (by decide) (by decide) (hq mw_t66) (va_Nw.use rfl (en_C77 hE)) hce hcv hcl ?_
      refine lv_astore_n (lv' := [(2, .ref q9), (0, .ref h0), (1, .int a1)]) hx hb dc_L_copies_8 rfl hl (Nat.le_of_ble_eq_true rfl) rfl (fun ls hl => ?_)
      refine lv_iconst (v := 1) hx hb dc_L_copies_9 (by decide) ?_
      exact W.iret (v := (1 : Int32)) hx hb hr (fun t ht hW => ⟨⟨(1 : Int32), (fO2x, fU2x, fW2x, fG2x, fL2x, len2x, size2x), rfl, hw, by rw [ht]; exact hP, va_K.moved hW.alike hK, hD⟩, hS.F ht⟩) hS.2.2 dc_L_copies_10
    · have hP : va_P (dC, dI) cs_3 (wd_X h0 qO qU qW qG qN qL cJ cI cZ cB fO2x fU2x fW2x fG2x fL2x len2x size2x) H := hP.sub (ws' := (wd_X h0 qO qU qW qG qN qL cJ cI cZ cB fO2x fU2x fW2x fG2x fL2x len2x size2x)) [0, 1, 2, 3, 4, 5, 6] rfl
      have hD : va_D A (wd_X h0 qO qU qW qG qN qL cJ cI cZ cB fO2x fU2x fW2x fG2x fL2x len2x size2x) := hD.sub (ws' := (wd_X h0 qO qU qW qG qN qL cJ cI cZ cB fO2x fU2x fW2x fG2x fL2x len2x size2x)) [0, 1, 2, 3, 4, 5, 6] (by decide) rfl
      refine vx_catch hown [⟨0, 5, 8, 13⟩] ⟨0, 5, 11, 15⟩ [] htab (fun z hz => by obtain rfl := List.mem_singleton.mp hz; exact Or.inr ⟨by decide, "java/lang/IllegalArgumentException", hq mw_t66, hC⟩) (by decide) (by decide) (hq mw_t67) (va_Nw.use rfl (en_C148 hE)) hce hcv hcl ?_
      refine lv_astore_n (lv' := [(2, .ref q9), (0, .ref h0), (1, .int a1)]) hx hb dc_L_copies_11 rfl hl (Nat.le_of_ble_eq_true rfl) rfl (fun ls hl => ?_)
      refine lv_iconst (v := 2) hx hb dc_L_copies_12 (by decide) ?_
      exact W.iret (v := (2 : Int32)) hx hb hr (fun t ht hW => ⟨⟨(2 : Int32), (fO2x, fU2x, fW2x, fG2x, fL2x, len2x, size2x), rfl, hw, by rw [ht]; exact hP, va_K.moved hW.alike hK, hD⟩, hS.F ht⟩) hS.2.2 dc_L_copies_13
set_option maxHeartbeats 4000000 in
set_option maxRecDepth 100000 in
theorem kt_L_part (l : Launch) (hlt : l.stackTraces = false) (dC : Nat → ClassId) (dI : Nat → Nat → Nat) (cJ cI cZ cB : ClassId) (h0 qO qU qW qG qN qL : Nat) (sz : Nat) (a1 : Int32) (a2 : Int32) (fO : (Nat → Int64)) (fU : (Nat → Int64)) (fW : (Nat → Int32)) (fG : (Nat → Int32)) (fL : (Nat → Int32)) (len : Int32) (size : Int32) (post : Int32 → (Nat → Int64) → (Nat → Int64) → (Nat → Int32) → (Nat → Int32) → (Nat → Int32) → Int32 → Int32 → Prop) (hw : wp_L_part post a1 a2 fO fU fW fG fL len size) : Met l yn_L_part ws_L_part rm_L_part (va_Pc [.ref h0, .int a1, .int a2] (pc_H (dC, dI) (ty_4 cJ cI cZ cB) (wd_X h0 qO qU qW qG qN qL cJ cI cZ cB fO fU fW fG fL len size) sz)) (qi_X dC dI cJ cI cZ cB h0 qO qU qW qG qN qL post (va_A (wd_X h0 qO qU qW qG qN qL cJ cI cZ cB fO fU fW fG fL len size) sz)) 1 6 (va_A (wd_X h0 qO qU qW qG qN qL cJ cI cZ cB fO fU fW fG fL len size) sz) := by
  refine va_MetW (cc := cd_L_part) (maxL := 4) (ret := (some .int)) (by decide) rfl ?_
  intro p e s m args below meth c s₁ B hml hv
  obtain ⟨rfl, ⟨⟨hsz, hP, hK, hD0, hE⟩, hZ⟩, hC⟩ := hv
  have hx := B.exec
  have hb := B.bytes
  have hr := B.returns
  have hts := atoms_spec (ws := ws_L_part) B.pre
  have hq : ∀ {w : Cond}, w ∈ wg_all → w.before ([.ref h0, .int a1, .int a2] : List Value).toArray s = true := fun h => hts _ (List.mem_cons_of_mem _ h)
  have hu : ∀ L : List Cond, (∀ w ∈ L, w ∈ wg_all) → ∀ w ∈ L, w ∈ ws_L_part := fun L h w hw => List.mem_cons_of_mem _ (h w hw)
  have hown : s.vm.findClass "FourWordsLaw" = some m.cls := findClass_of_methodNamed B.named
  have hlocks := B.notSynchronized
  subst hsz
  have hD := hD0.self (sz := s.heap.size)
  have htab : c.exceptionTable.toList = [⟨0, 6, 9, 13⟩, ⟨0, 6, 12, 15⟩] := vx_table (x := yn_L_part) B (hts _ List.mem_cons_self)
  generalize hAe : va_A (wd_X h0 qO qU qW qG qN qL cJ cI cZ cB fO fU fW fG fL len size) s.heap.size = A at hD hZ ⊢
  have hA : ∀ q : Nat, s.heap.size ≤ q → A q := fun q h => by rw [← hAe]; exact Or.inr h
  have hS : va_S A s.heap s.heap [] := va_S.rf
  have hl := lv_entry [.ref h0, .int a1, .int a2] (n := 4) (Nat.le_of_ble_eq_true rfl)
  rw [lg_entry_eq]
  generalize (lg_sl [.ref h0, .int a1, .int a2] ++ List.replicate (4 - (lg_sl [.ref h0, .int a1, .int a2]).length) Slot.unset).toArray = ls at hl ⊢
  have hl : lv_has ls 4 [(0, .ref h0), (1, .int a1), (2, .int a2)] := hl
  unfold wp_L_part at hw
  refine lv_aload_n hx hb dc_L_part_0 rfl (lv_at hl 0 rfl) ?_
  refine lv_iload_n hx hb dc_L_part_1 rfl (lv_at hl 1 rfl) ?_
  refine lv_iload_n hx hb dc_L_part_2 rfl (lv_at hl 2 rfl) ?_
  refine gx_v (S := (Nat → Int64) × (Nat → Int64) × (Nat → Int32) × (Nat → Int32) × (Nat → Int32) × Int32 × Int32) (w1 := (fun u => (wd_X h0 qO qU qW qG qN qL cJ cI cZ cB u.1 u.2.1 u.2.2.1 u.2.2.2.1 u.2.2.2.2.1 u.2.2.2.2.2.1 u.2.2.2.2.2.2))) (w2 := (fun u => (wd_X h0 qO qU qW qG qN qL cJ cI cZ cB u.2.1 u.2.2.1 u.2.2.2.1 u.2.2.2.2.1 u.2.2.2.2.2.1 u.2.2.2.2.2.2.1 u.2.2.2.2.2.2.2))) (wc := (wd_X h0 qO qU qW qG qN qL cJ cI cZ cB fO fU fW fG fL len size)) (wr := ([] : va_W)) (vx_runV (As := [.int a1, .int a2]) (rest := []) ⟨hx, hb, hml, hown, hts⟩ (kt_X_part l hlt dC dI cJ cI cZ cB h0 qO qU qW qG qN qL _ a1 a2 fO fU fW fG fL len size _ _ hw) ⟨callB_of 2 hts (gw_in mw_t344) rfl rfl rfl (hq mw_t1) (hq mw_t341) (by decide +kernel) ⟨Nat.le_of_ble_eq_true rfl, Nat.le_of_ble_eq_true rfl⟩, hq mw_t342, hq mw_t343⟩ (pq_W (va_recv (q0 := 0) (ci := 1) hK hP rfl rfl) (hP.sub (ws' := (wd_X h0 qO qU qW qG qN qL cJ cI cZ cB fO fU fW fG fL len size)) [0, 1, 2, 3, 4, 5, 6] rfl) hK (hD.sub (ws' := (wd_X h0 qO qU qW qG qN qL cJ cI cZ cB fO fU fW fG fL len size)) [0, 1, 2, 3, 4, 5, 6] (by decide) rfl) hE (zz_W hZ hS (va_free (wc := (wd_X h0 qO qU qW qG qN qL cJ cI cZ cB fO fU fW fG fL len size)) hD hS hA [0, 1, 2, 3, 4, 5, 6] rfl))) rfl rfl hl.1 rfl (lv_room (Nat.le_of_ble_eq_true rfl)) dc_L_part_3 ⟨Nat.le_of_ble_eq_true rfl, Nat.le_of_ble_eq_true rfl⟩) hP hD hS hA [0, 1, 2, 3, 4, 5, 6] [] rfl rfl (by decide) (by decide) (fun u H locs hw hP hD hS => ?_) (fun E9 u q9 ce H locs hw hP hD hS hce hcv hcl => ?_)
  · obtain ⟨fO3, fU3, fW3, fG3, fL3, len3, size3⟩ := u
    have hP : va_P (dC, dI) cs_3 (wd_X h0 qO qU qW qG qN qL cJ cI cZ cB fO3 fU3 fW3 fG3 fL3 len3 size3) H := hP.sub (ws' := (wd_X h0 qO qU qW qG qN qL cJ cI cZ cB fO3 fU3 fW3 fG3 fL3 len3 size3)) [0, 1, 2, 3, 4, 5, 6] rfl
    have hD : va_D A (wd_X h0 qO qU qW qG qN qL cJ cI cZ cB fO3 fU3 fW3 fG3 fL3 len3 size3) := hD.sub (ws' := (wd_X h0 qO qU qW qG qN qL cJ cI cZ cB fO3 fU3 fW3 fG3 fL3 len3 size3)) [0, 1, 2, 3, 4, 5, 6] (by decide) rfl
    try dsimp only at hw
    refine lv_goto (tgt := 15) hx hb dc_L_part_6 (by decide) ?_
    refine lv_iconst (v := 0) hx hb dc_L_part_15 (by decide) ?_
    exact W.iret (v := (0 : Int32)) hx hb hr (fun t ht hW => ⟨⟨(0 : Int32), (fO3, fU3, fW3, fG3, fL3, len3, size3), rfl, hw, by rw [ht]; exact hP, va_K.moved hW.alike hK, hD⟩, hS.F ht⟩) hS.2.2 dc_L_part_16
  · obtain ⟨fO3x, fU3x, fW3x, fG3x, fL3x, len3x, size3x⟩ := u
    try dsimp only at hw
    rcases hw with ⟨rfl, hw⟩ | ⟨rfl, hw⟩
    · have hP : va_P (dC, dI) cs_3 (wd_X h0 qO qU qW qG qN qL cJ cI cZ cB fO3x fU3x fW3x fG3x fL3x len3x size3x) H := hP.sub (ws' := (wd_X h0 qO qU qW qG qN qL cJ cI cZ cB fO3x fU3x fW3x fG3x fL3x len3x size3x)) [0, 1, 2, 3, 4, 5, 6] rfl
      have hD : va_D A (wd_X h0 qO qU qW qG qN qL cJ cI cZ cB fO3x fU3x fW3x fG3x fL3x len3x size3x) := hD.sub (ws' := (wd_X h0 qO qU qW qG qN qL cJ cI cZ cB fO3x fU3x fW3x fG3x fL3x len3x size3x)) [0, 1, 2, 3, 4, 5, 6] (by decide) rfl
      refine vx_catch hown [] ⟨0, 6, 9, 13⟩ [⟨0, 6, 12, 15⟩] htab (fun z hz => (List.not_mem_nil hz).elim) (by decide) (by decide) (hq mw_t66) (va_Nw.use rfl (en_C77 hE)) hce hcv hcl ?_
      refine lv_astore_n (lv' := [(3, .ref q9), (0, .ref h0), (1, .int a1), (2, .int a2)]) hx hb dc_L_part_9 rfl hl (Nat.le_of_ble_eq_true rfl) rfl (fun ls hl => ?_)
      refine lv_iconst (v := 1) hx hb dc_L_part_10 (by decide) ?_
      exact W.iret (v := (1 : Int32)) hx hb hr (fun t ht hW => ⟨⟨(1 : Int32), (fO3x, fU3x, fW3x, fG3x, fL3x, len3x, size3x), rfl, hw, by rw [ht]; exact hP, va_K.moved hW.alike hK, hD⟩, hS.F ht⟩) hS.2.2 dc_L_part_11
    · have hP : va_P (dC, dI) cs_3 (wd_X h0 qO qU qW qG qN qL cJ cI cZ cB fO3x fU3x fW3x fG3x fL3x len3x size3x) H := hP.sub (ws' := (wd_X h0 qO qU qW qG qN qL cJ cI cZ cB fO3x fU3x fW3x fG3x fL3x len3x size3x)) [0, 1, 2, 3, 4, 5, 6] rfl
      have hD : va_D A (wd_X h0 qO qU qW qG qN qL cJ cI cZ cB fO3x fU3x fW3x fG3x fL3x len3x size3x) := hD.sub (ws' := (wd_X h0 qO qU qW qG qN qL cJ cI cZ cB fO3x fU3x fW3x fG3x fL3x len3x size3x)) [0, 1, 2, 3, 4, 5, 6] (by decide) rfl
      refine vx_catch hown [⟨0, 6, 9, 13⟩] ⟨0, 6, 12, 15⟩ [] htab (fun z hz => by obtain rfl := List.mem_singleton.mp hz; exact Or.inr ⟨by decide, "java/lang/IllegalArgumentException", hq mw_t66, hC⟩) (by decide) (by decide) (hq mw_t67) (va_Nw.use rfl (en_C148 hE)) hce hcv hcl ?_
      refine lv_astore_n (lv' := [(3, .ref q9), (0, .ref h0), (1, .int a1), (2, .int a2)]) hx hb dc_L_part_12 rfl hl (Nat.le_of_ble_eq_true rfl) rfl (fun ls hl => ?_)
      refine lv_iconst (v := 2) hx hb dc_L_part_13 (by decide) ?_
      exact W.iret (v := (2 : Int32)) hx hb hr (fun t ht hW => ⟨⟨(2 : Int32), (fO3x, fU3x, fW3x, fG3x, fL3x, len3x, size3x), rfl, hw, by rw [ht]; exact hP, va_K.moved hW.alike hK, hD⟩, hS.F ht⟩) hS.2.2 dc_L_part_14
set_option maxHeartbeats 4000000 in
set_option maxRecDepth 100000 in
theorem kt_L_bit (l : Launch) (hlt : l.stackTraces = false) (dC : Nat → ClassId) (dI : Nat → Nat → Nat) (cJ cI cZ cB : ClassId) (h0 qO qU qW qG qN qL : Nat) (sz : Nat) (fO : (Nat → Int64)) (fU : (Nat → Int64)) (fW : (Nat → Int32)) (fG : (Nat → Int32)) (fL : (Nat → Int32)) (len : Int32) (size : Int32) (post : Int32 → (Nat → Int64) → (Nat → Int64) → (Nat → Int32) → (Nat → Int32) → (Nat → Int32) → Int32 → Int32 → Prop) (hw : wp_L_bit post fO fU fW fG fL len size) : Met l yn_L_bit ws_L_bit rm_L_bit (va_Pc [.ref h0] (pc_H (dC, dI) (ty_4 cJ cI cZ cB) (wd_X h0 qO qU qW qG qN qL cJ cI cZ cB fO fU fW fG fL len size) sz)) (qi_X dC dI cJ cI cZ cB h0 qO qU qW qG qN qL post (va_A (wd_X h0 qO qU qW qG qN qL cJ cI cZ cB fO fU fW fG fL len size) sz)) 1 6 (va_A (wd_X h0 qO qU qW qG qN qL cJ cI cZ cB fO fU fW fG fL len size) sz) := by
  refine va_MetW (cc := cd_L_bit) (maxL := 2) (ret := (some .int)) (by decide) rfl ?_
  intro p e s m args below meth c s₁ B hml hv
  obtain ⟨rfl, ⟨⟨hsz, hP, hK, hD0, hE⟩, hZ⟩, hC⟩ := hv
  have hx := B.exec
  have hb := B.bytes
  have hr := B.returns
  have hts := atoms_spec (ws := ws_L_bit) B.pre
  have hq : ∀ {w : Cond}, w ∈ wg_all → w.before ([.ref h0] : List Value).toArray s = true := fun h => hts _ (List.mem_cons_of_mem _ h)
  have hu : ∀ L : List Cond, (∀ w ∈ L, w ∈ wg_all) → ∀ w ∈ L, w ∈ ws_L_bit := fun L h w hw => List.mem_cons_of_mem _ (h w hw)
  have hown : s.vm.findClass "FourWordsLaw" = some m.cls := findClass_of_methodNamed B.named
  have hlocks := B.notSynchronized
  subst hsz
  have hD := hD0.self (sz := s.heap.size)
  have htab : c.exceptionTable.toList = [⟨0, 4, 7, 15⟩] := vx_table (x := yn_L_bit) B (hts _ List.mem_cons_self)
  generalize hAe : va_A (wd_X h0 qO qU qW qG qN qL cJ cI cZ cB fO fU fW fG fL len size) s.heap.size = A at hD hZ ⊢
  have hA : ∀ q : Nat, s.heap.size ≤ q → A q := fun q h => by rw [← hAe]; exact Or.inr h
  have hS : va_S A s.heap s.heap [] := va_S.rf
  have hl := lv_entry [.ref h0] (n := 2) (Nat.le_of_ble_eq_true rfl)
  rw [lg_entry_eq]
  generalize (lg_sl [.ref h0] ++ List.replicate (2 - (lg_sl [.ref h0]).length) Slot.unset).toArray = ls at hl ⊢
  have hl : lv_has ls 2 [(0, .ref h0)] := hl
  unfold wp_L_bit at hw
  refine lv_aload_n hx hb dc_L_bit_0 rfl (lv_at hl 0 rfl) ?_
  refine gx_v (S := (Nat → Int64) × (Nat → Int64) × (Nat → Int32) × (Nat → Int32) × (Nat → Int32) × Int32 × Int32) (w1 := (fun u => (wd_X h0 qO qU qW qG qN qL cJ cI cZ cB u.1 u.2.1 u.2.2.1 u.2.2.2.1 u.2.2.2.2.1 u.2.2.2.2.2.1 u.2.2.2.2.2.2))) (w2 := (fun u => (wd_X h0 qO qU qW qG qN qL cJ cI cZ cB u.2.1 u.2.2.1 u.2.2.2.1 u.2.2.2.2.1 u.2.2.2.2.2.1 u.2.2.2.2.2.2.1 u.2.2.2.2.2.2.2))) (wc := (wd_X h0 qO qU qW qG qN qL cJ cI cZ cB fO fU fW fG fL len size)) (wr := ([] : va_W)) (vx_runV (As := []) (rest := []) ⟨hx, hb, hml, hown, hts⟩ (kt_X_bit l hlt dC dI cJ cI cZ cB h0 qO qU qW qG qN qL _ fO fU fW fG fL len size _ _ hw) ⟨callB_of 0 hts (gw_in mw_t351) rfl rfl rfl (hq mw_t1) (hq mw_t348) (by decide +kernel) ⟨Nat.le_of_ble_eq_true rfl, Nat.le_of_ble_eq_true rfl⟩, hq mw_t349, hq mw_t350⟩ (pq_W (va_recv (q0 := 0) (ci := 1) hK hP rfl rfl) (hP.sub (ws' := (wd_X h0 qO qU qW qG qN qL cJ cI cZ cB fO fU fW fG fL len size)) [0, 1, 2, 3, 4, 5, 6] rfl) hK (hD.sub (ws' := (wd_X h0 qO qU qW qG qN qL cJ cI cZ cB fO fU fW fG fL len size)) [0, 1, 2, 3, 4, 5, 6] (by decide) rfl) hE (zz_W hZ hS (va_free (wc := (wd_X h0 qO qU qW qG qN qL cJ cI cZ cB fO fU fW fG fL len size)) hD hS hA [0, 1, 2, 3, 4, 5, 6] rfl))) rfl rfl hl.1 rfl (lv_room (Nat.le_of_ble_eq_true rfl)) dc_L_bit_1 ⟨Nat.le_of_ble_eq_true rfl, Nat.le_of_ble_eq_true rfl⟩) hP hD hS hA [0, 1, 2, 3, 4, 5, 6] [] rfl rfl (by decide) (by decide) (fun u H locs hw hP hD hS => ?_) (fun E9 u q9 ce H locs hw hP hD hS hce hcv hcl => ?_)
  · obtain ⟨fO1, fU1, fW1, fG1, fL1, len1, size1⟩ := u
    have hP : va_P (dC, dI) cs_3 (wd_X h0 qO qU qW qG qN qL cJ cI cZ cB fO1 fU1 fW1 fG1 fL1 len1 size1) H := hP.sub (ws' := (wd_X h0 qO qU qW qG qN qL cJ cI cZ cB fO1 fU1 fW1 fG1 fL1 len1 size1)) [0, 1, 2, 3, 4, 5, 6] rfl
    have hD : va_D A (wd_X h0 qO qU qW qG qN qL cJ cI cZ cB fO1 fU1 fW1 fG1 fL1 len1 size1) := hD.sub (ws' := (wd_X h0 qO qU qW qG qN qL cJ cI cZ cB fO1 fU1 fW1 fG1 fL1 len1 size1)) [0, 1, 2, 3, 4, 5, 6] (by decide) rfl
    try dsimp only at hw
    refine lv_goto (tgt := 10) hx hb dc_L_bit_4 (by decide) ?_
    refine lv_iconst (v := 0) hx hb dc_L_bit_10 (by decide) ?_
    exact W.iret (v := (0 : Int32)) hx hb hr (fun t ht hW => ⟨⟨(0 : Int32), (fO1, fU1, fW1, fG1, fL1, len1, size1), rfl, hw, by rw [ht]; exact hP, va_K.moved hW.alike hK, hD⟩, hS.F ht⟩) hS.2.2 dc_L_bit_11
  · obtain ⟨fO1x, fU1x, fW1x, fG1x, fL1x, len1x, size1x⟩ := u
    try dsimp only at hw
    obtain ⟨rfl, hw⟩ := hw
    have hP : va_P (dC, dI) cs_3 (wd_X h0 qO qU qW qG qN qL cJ cI cZ cB fO1x fU1x fW1x fG1x fL1x len1x size1x) H := hP.sub (ws' := (wd_X h0 qO qU qW qG qN qL cJ cI cZ cB fO1x fU1x fW1x fG1x fL1x len1x size1x)) [0, 1, 2, 3, 4, 5, 6] rfl
    have hD : va_D A (wd_X h0 qO qU qW qG qN qL cJ cI cZ cB fO1x fU1x fW1x fG1x fL1x len1x size1x) := hD.sub (ws' := (wd_X h0 qO qU qW qG qN qL cJ cI cZ cB fO1x fU1x fW1x fG1x fL1x len1x size1x)) [0, 1, 2, 3, 4, 5, 6] (by decide) rfl
    refine vx_catch hown [] ⟨0, 4, 7, 15⟩ [] htab (fun z hz => (List.not_mem_nil hz).elim) (by decide) (by decide) (hq mw_t67) (va_Nw.use rfl (en_C148 hE)) hce hcv hcl ?_
    refine lv_astore_n (lv' := [(1, .ref q9), (0, .ref h0)]) hx hb dc_L_bit_7 rfl hl (Nat.le_of_ble_eq_true rfl) rfl (fun ls hl => ?_)
    refine lv_iconst (v := 1) hx hb dc_L_bit_8 (by decide) ?_
    exact W.iret (v := (1 : Int32)) hx hb hr (fun t ht hW => ⟨⟨(1 : Int32), (fO1x, fU1x, fW1x, fG1x, fL1x, len1x, size1x), rfl, hw, by rw [ht]; exact hP, va_K.moved hW.alike hK, hD⟩, hS.F ht⟩) hS.2.2 dc_L_bit_9
set_option maxHeartbeats 4000000 in
set_option maxRecDepth 100000 in
theorem kt_L_as (l : Launch) (hlt : l.stackTraces = false) (dC : Nat → ClassId) (dI : Nat → Nat → Nat) (cJ cI cZ cB : ClassId) (h0 qO qU qW qG qN qL : Nat) (sz : Nat) (a1 : Int32) (a2 : Int32) (fO : (Nat → Int64)) (fU : (Nat → Int64)) (fW : (Nat → Int32)) (fG : (Nat → Int32)) (fL : (Nat → Int32)) (len : Int32) (size : Int32) (post : Int32 → (Nat → Int64) → (Nat → Int64) → (Nat → Int32) → (Nat → Int32) → (Nat → Int32) → Int32 → Int32 → Prop) (hw : wp_L_as post a1 a2 fO fU fW fG fL len size) : Met l yn_L_as ws_L_as rm_L_as (va_Pc [.ref h0, .int a1, .int a2] (pc_H (dC, dI) (ty_4 cJ cI cZ cB) (wd_X h0 qO qU qW qG qN qL cJ cI cZ cB fO fU fW fG fL len size) sz)) (qi_X dC dI cJ cI cZ cB h0 qO qU qW qG qN qL post (va_A (wd_X h0 qO qU qW qG qN qL cJ cI cZ cB fO fU fW fG fL len size) sz)) 1 6 (va_A (wd_X h0 qO qU qW qG qN qL cJ cI cZ cB fO fU fW fG fL len size) sz) := by
  refine va_MetW (cc := cd_L_as) (maxL := 4) (ret := (some .int)) (by decide) rfl ?_
  intro p e s m args below meth c s₁ B hml hv
  obtain ⟨rfl, ⟨⟨hsz, hP, hK, hD0, hE⟩, hZ⟩, hC⟩ := hv
  have hx := B.exec
  have hb := B.bytes
  have hr := B.returns
  have hts := atoms_spec (ws := ws_L_as) B.pre
  have hq : ∀ {w : Cond}, w ∈ wg_all → w.before ([.ref h0, .int a1, .int a2] : List Value).toArray s = true := fun h => hts _ (List.mem_cons_of_mem _ h)
  have hu : ∀ L : List Cond, (∀ w ∈ L, w ∈ wg_all) → ∀ w ∈ L, w ∈ ws_L_as := fun L h w hw => List.mem_cons_of_mem _ (h w hw)
  have hown : s.vm.findClass "FourWordsLaw" = some m.cls := findClass_of_methodNamed B.named
  have hlocks := B.notSynchronized
  subst hsz
  have hD := hD0.self (sz := s.heap.size)
  have htab : c.exceptionTable.toList = [⟨0, 6, 9, 13⟩, ⟨0, 6, 12, 15⟩] := vx_table (x := yn_L_as) B (hts _ List.mem_cons_self)
  generalize hAe : va_A (wd_X h0 qO qU qW qG qN qL cJ cI cZ cB fO fU fW fG fL len size) s.heap.size = A at hD hZ ⊢
  have hA : ∀ q : Nat, s.heap.size ≤ q → A q := fun q h => by rw [← hAe]; exact Or.inr h
  have hS : va_S A s.heap s.heap [] := va_S.rf
  have hl := lv_entry [.ref h0, .int a1, .int a2] (n := 4) (Nat.le_of_ble_eq_true rfl)
  rw [lg_entry_eq]
  generalize (lg_sl [.ref h0, .int a1, .int a2] ++ List.replicate (4 - (lg_sl [.ref h0, .int a1, .int a2]).length) Slot.unset).toArray = ls at hl ⊢
  have hl : lv_has ls 4 [(0, .ref h0), (1, .int a1), (2, .int a2)] := hl
  unfold wp_L_as at hw
  refine lv_aload_n hx hb dc_L_as_0 rfl (lv_at hl 0 rfl) ?_
  refine lv_iload_n hx hb dc_L_as_1 rfl (lv_at hl 1 rfl) ?_
  refine lv_iload_n hx hb dc_L_as_2 rfl (lv_at hl 2 rfl) ?_
  refine gx_v (S := (Nat → Int64) × (Nat → Int64) × (Nat → Int32) × (Nat → Int32) × (Nat → Int32) × Int32 × Int32) (w1 := (fun u => (wd_X h0 qO qU qW qG qN qL cJ cI cZ cB u.1 u.2.1 u.2.2.1 u.2.2.2.1 u.2.2.2.2.1 u.2.2.2.2.2.1 u.2.2.2.2.2.2))) (w2 := (fun u => (wd_X h0 qO qU qW qG qN qL cJ cI cZ cB u.2.1 u.2.2.1 u.2.2.2.1 u.2.2.2.2.1 u.2.2.2.2.2.1 u.2.2.2.2.2.2.1 u.2.2.2.2.2.2.2))) (wc := (wd_X h0 qO qU qW qG qN qL cJ cI cZ cB fO fU fW fG fL len size)) (wr := ([] : va_W)) (vx_runV (As := [.int a1, .int a2]) (rest := []) ⟨hx, hb, hml, hown, hts⟩ (kt_X_as l hlt dC dI cJ cI cZ cB h0 qO qU qW qG qN qL _ a1 a2 fO fU fW fG fL len size _ _ hw) ⟨callB_of 2 hts (gw_in mw_t358) rfl rfl rfl (hq mw_t1) (hq mw_t355) (by decide +kernel) ⟨Nat.le_of_ble_eq_true rfl, Nat.le_of_ble_eq_true rfl⟩, hq mw_t356, hq mw_t357⟩ (pq_W (va_recv (q0 := 0) (ci := 1) hK hP rfl rfl) (hP.sub (ws' := (wd_X h0 qO qU qW qG qN qL cJ cI cZ cB fO fU fW fG fL len size)) [0, 1, 2, 3, 4, 5, 6] rfl) hK (hD.sub (ws' := (wd_X h0 qO qU qW qG qN qL cJ cI cZ cB fO fU fW fG fL len size)) [0, 1, 2, 3, 4, 5, 6] (by decide) rfl) hE (zz_W hZ hS (va_free (wc := (wd_X h0 qO qU qW qG qN qL cJ cI cZ cB fO fU fW fG fL len size)) hD hS hA [0, 1, 2, 3, 4, 5, 6] rfl))) rfl rfl hl.1 rfl (lv_room (Nat.le_of_ble_eq_true rfl)) dc_L_as_3 ⟨Nat.le_of_ble_eq_true rfl, Nat.le_of_ble_eq_true rfl⟩) hP hD hS hA [0, 1, 2, 3, 4, 5, 6] [] rfl rfl (by decide) (by decide) (fun u H locs hw hP hD hS => ?_) (fun E9 u q9 ce H locs hw hP hD hS hce hcv hcl => ?_)
  · obtain ⟨fO3, fU3, fW3, fG3, fL3, len3, size3⟩ := u
    have hP : va_P (dC, dI) cs_3 (wd_X h0 qO qU qW qG qN qL cJ cI cZ cB fO3 fU3 fW3 fG3 fL3 len3 size3) H := hP.sub (ws' := (wd_X h0 qO qU qW qG qN qL cJ cI cZ cB fO3 fU3 fW3 fG3 fL3 len3 size3)) [0, 1, 2, 3, 4, 5, 6] rfl
    have hD : va_D A (wd_X h0 qO qU qW qG qN qL cJ cI cZ cB fO3 fU3 fW3 fG3 fL3 len3 size3) := hD.sub (ws' := (wd_X h0 qO qU qW qG qN qL cJ cI cZ cB fO3 fU3 fW3 fG3 fL3 len3 size3)) [0, 1, 2, 3, 4, 5, 6] (by decide) rfl
    try dsimp only at hw
    refine lv_goto (tgt := 15) hx hb dc_L_as_6 (by decide) ?_
    refine lv_iconst (v := 0) hx hb dc_L_as_15 (by decide) ?_
    exact W.iret (v := (0 : Int32)) hx hb hr (fun t ht hW => ⟨⟨(0 : Int32), (fO3, fU3, fW3, fG3, fL3, len3, size3), rfl, hw, by rw [ht]; exact hP, va_K.moved hW.alike hK, hD⟩, hS.F ht⟩) hS.2.2 dc_L_as_16
  · obtain ⟨fO3x, fU3x, fW3x, fG3x, fL3x, len3x, size3x⟩ := u
    try dsimp only at hw
    rcases hw with ⟨rfl, hw⟩ | ⟨rfl, hw⟩
    · have hP : va_P (dC, dI) cs_3 (wd_X h0 qO qU qW qG qN qL cJ cI cZ cB fO3x fU3x fW3x fG3x fL3x len3x size3x) H := hP.sub (ws' := (wd_X h0 qO qU qW qG qN qL cJ cI cZ cB fO3x fU3x fW3x fG3x fL3x len3x size3x)) [0, 1, 2, 3, 4, 5, 6] rfl
      have hD : va_D A (wd_X h0 qO qU qW qG qN qL cJ cI cZ cB fO3x fU3x fW3x fG3x fL3x len3x size3x) := hD.sub (ws' := (wd_X h0 qO qU qW qG qN qL cJ cI cZ cB fO3x fU3x fW3x fG3x fL3x len3x size3x)) [0, 1, 2, 3, 4, 5, 6] (by decide) rfl
      refine vx_catch hown [] ⟨0, 6, 9, 13⟩ [⟨0, 6, 12, 15⟩] htab (fun z hz => (List.not_mem_nil hz).elim) (by decide) (by decide) (hq mw_t66) (va_Nw.use rfl (en_C77 hE)) hce hcv hcl ?_
      refine lv_astore_n (lv' := [(3, .ref q9), (0, .ref h0), (1, .int a1), (2, .int a2)]) hx hb dc_L_as_9 rfl hl (Nat.le_of_ble_eq_true rfl) rfl (fun ls hl => ?_)
      refine lv_iconst (v := 1) hx hb dc_L_as_10 (by decide) ?_
      exact W.iret (v := (1 : Int32)) hx hb hr (fun t ht hW => ⟨⟨(1 : Int32), (fO3x, fU3x, fW3x, fG3x, fL3x, len3x, size3x), rfl, hw, by rw [ht]; exact hP, va_K.moved hW.alike hK, hD⟩, hS.F ht⟩) hS.2.2 dc_L_as_11
    · have hP : va_P (dC, dI) cs_3 (wd_X h0 qO qU qW qG qN qL cJ cI cZ cB fO3x fU3x fW3x fG3x fL3x len3x size3x) H := hP.sub (ws' := (wd_X h0 qO qU qW qG qN qL cJ cI cZ cB fO3x fU3x fW3x fG3x fL3x len3x size3x)) [0, 1, 2, 3, 4, 5, 6] rfl
      have hD : va_D A (wd_X h0 qO qU qW qG qN qL cJ cI cZ cB fO3x fU3x fW3x fG3x fL3x len3x size3x) := hD.sub (ws' := (wd_X h0 qO qU qW qG qN qL cJ cI cZ cB fO3x fU3x fW3x fG3x fL3x len3x size3x)) [0, 1, 2, 3, 4, 5, 6] (by decide) rfl
      refine vx_catch hown [⟨0, 6, 9, 13⟩] ⟨0, 6, 12, 15⟩ [] htab (fun z hz => by obtain rfl := List.mem_singleton.mp hz; exact Or.inr ⟨by decide, "java/lang/IllegalArgumentException", hq mw_t66, hC⟩) (by decide) (by decide) (hq mw_t67) (va_Nw.use rfl (en_C148 hE)) hce hcv hcl ?_
      refine lv_astore_n (lv' := [(3, .ref q9), (0, .ref h0), (1, .int a1), (2, .int a2)]) hx hb dc_L_as_12 rfl hl (Nat.le_of_ble_eq_true rfl) rfl (fun ls hl => ?_)
      refine lv_iconst (v := 2) hx hb dc_L_as_13 (by decide) ?_
      exact W.iret (v := (2 : Int32)) hx hb hr (fun t ht hW => ⟨⟨(2 : Int32), (fO3x, fU3x, fW3x, fG3x, fL3x, len3x, size3x), rfl, hw, by rw [ht]; exact hP, va_K.moved hW.alike hK, hD⟩, hS.F ht⟩) hS.2.2 dc_L_as_14
set_option maxHeartbeats 4000000 in
set_option maxRecDepth 100000 in
theorem kt_L_again (l : Launch) (hlt : l.stackTraces = false) (dC : Nat → ClassId) (dI : Nat → Nat → Nat) (cJ cI cZ cB : ClassId) (h0 qO qU qW qG qN qL : Nat) (sz : Nat) (a1 : Int32) (fO : (Nat → Int64)) (fU : (Nat → Int64)) (fW : (Nat → Int32)) (fG : (Nat → Int32)) (fL : (Nat → Int32)) (len : Int32) (size : Int32) (post : Int32 → (Nat → Int64) → (Nat → Int64) → (Nat → Int32) → (Nat → Int32) → (Nat → Int32) → Int32 → Int32 → Prop) (hw : wp_L_again post a1 fO fU fW fG fL len size) : Met l yn_L_again ws_L_again rm_L_again (va_Pc [.ref h0, .int a1] (pc_H (dC, dI) (ty_4 cJ cI cZ cB) (wd_X h0 qO qU qW qG qN qL cJ cI cZ cB fO fU fW fG fL len size) sz)) (qi_X dC dI cJ cI cZ cB h0 qO qU qW qG qN qL post (va_A (wd_X h0 qO qU qW qG qN qL cJ cI cZ cB fO fU fW fG fL len size) sz)) 1 6 (va_A (wd_X h0 qO qU qW qG qN qL cJ cI cZ cB fO fU fW fG fL len size) sz) := by
  refine va_MetW (cc := cd_L_again) (maxL := 3) (ret := (some .int)) (by decide) rfl ?_
  intro p e s m args below meth c s₁ B hml hv
  obtain ⟨rfl, ⟨⟨hsz, hP, hK, hD0, hE⟩, hZ⟩, hC⟩ := hv
  have hx := B.exec
  have hb := B.bytes
  have hr := B.returns
  have hts := atoms_spec (ws := ws_L_again) B.pre
  have hq : ∀ {w : Cond}, w ∈ wg_all → w.before ([.ref h0, .int a1] : List Value).toArray s = true := fun h => hts _ (List.mem_cons_of_mem _ h)
  have hu : ∀ L : List Cond, (∀ w ∈ L, w ∈ wg_all) → ∀ w ∈ L, w ∈ ws_L_again := fun L h w hw => List.mem_cons_of_mem _ (h w hw)
  have hown : s.vm.findClass "FourWordsLaw" = some m.cls := findClass_of_methodNamed B.named
  have hlocks := B.notSynchronized
  subst hsz
  have hD := hD0.self (sz := s.heap.size)
  have htab : c.exceptionTable.toList = [⟨0, 5, 8, 13⟩, ⟨0, 5, 11, 15⟩] := vx_table (x := yn_L_again) B (hts _ List.mem_cons_self)
  generalize hAe : va_A (wd_X h0 qO qU qW qG qN qL cJ cI cZ cB fO fU fW fG fL len size) s.heap.size = A at hD hZ ⊢
  have hA : ∀ q : Nat, s.heap.size ≤ q → A q := fun q h => by rw [← hAe]; exact Or.inr h
  have hS : va_S A s.heap s.heap [] := va_S.rf
  have hl := lv_entry [.ref h0, .int a1] (n := 3) (Nat.le_of_ble_eq_true rfl)
  rw [lg_entry_eq]
  generalize (lg_sl [.ref h0, .int a1] ++ List.replicate (3 - (lg_sl [.ref h0, .int a1]).length) Slot.unset).toArray = ls at hl ⊢
  have hl : lv_has ls 3 [(0, .ref h0), (1, .int a1)] := hl
  unfold wp_L_again at hw
  refine lv_aload_n hx hb dc_L_again_0 rfl (lv_at hl 0 rfl) ?_
  refine lv_iload_n hx hb dc_L_again_1 rfl (lv_at hl 1 rfl) ?_
  refine gx_v (S := (Nat → Int64) × (Nat → Int64) × (Nat → Int32) × (Nat → Int32) × (Nat → Int32) × Int32 × Int32) (w1 := (fun u => (wd_X h0 qO qU qW qG qN qL cJ cI cZ cB u.1 u.2.1 u.2.2.1 u.2.2.2.1 u.2.2.2.2.1 u.2.2.2.2.2.1 u.2.2.2.2.2.2))) (w2 := (fun u => (wd_X h0 qO qU qW qG qN qL cJ cI cZ cB u.2.1 u.2.2.1 u.2.2.2.1 u.2.2.2.2.1 u.2.2.2.2.2.1 u.2.2.2.2.2.2.1 u.2.2.2.2.2.2.2))) (wc := (wd_X h0 qO qU qW qG qN qL cJ cI cZ cB fO fU fW fG fL len size)) (wr := ([] : va_W)) (vx_runV (As := [.int a1]) (rest := []) ⟨hx, hb, hml, hown, hts⟩ (kt_X_again l hlt dC dI cJ cI cZ cB h0 qO qU qW qG qN qL _ a1 fO fU fW fG fL len size _ _ hw) ⟨callB_of 1 hts (gw_in mw_t365) rfl rfl rfl (hq mw_t1) (hq mw_t362) (by decide +kernel) ⟨Nat.le_of_ble_eq_true rfl, Nat.le_of_ble_eq_true rfl⟩, hq mw_t363, hq mw_t364⟩ (pq_W (va_recv (q0 := 0) (ci := 1) hK hP rfl rfl) (hP.sub (ws' := (wd_X h0 qO qU qW qG qN qL cJ cI cZ cB fO fU fW fG fL len size)) [0, 1, 2, 3, 4, 5, 6] rfl) hK (hD.sub (ws' := (wd_X h0 qO qU qW qG qN qL cJ cI cZ cB fO fU fW fG fL len size)) [0, 1, 2, 3, 4, 5, 6] (by decide) rfl) hE (zz_W hZ hS (va_free (wc := (wd_X h0 qO qU qW qG qN qL cJ cI cZ cB fO fU fW fG fL len size)) hD hS hA [0, 1, 2, 3, 4, 5, 6] rfl))) rfl rfl hl.1 rfl (lv_room (Nat.le_of_ble_eq_true rfl)) dc_L_again_2 ⟨Nat.le_of_ble_eq_true rfl, Nat.le_of_ble_eq_true rfl⟩) hP hD hS hA [0, 1, 2, 3, 4, 5, 6] [] rfl rfl (by decide) (by decide) (fun u H locs hw hP hD hS => ?_) (fun E9 u q9 ce H locs hw hP hD hS hce hcv hcl => ?_)
  · obtain ⟨fO2, fU2, fW2, fG2, fL2, len2, size2⟩ := u
    have hP : va_P (dC, dI) cs_3 (wd_X h0 qO qU qW qG qN qL cJ cI cZ cB fO2 fU2 fW2 fG2 fL2 len2 size2) H := hP.sub (ws' := (wd_X h0 qO qU qW qG qN qL cJ cI cZ cB fO2 fU2 fW2 fG2 fL2 len2 size2)) [0, 1, 2, 3, 4, 5, 6] rfl
    have hD : va_D A (wd_X h0 qO qU qW qG qN qL cJ cI cZ cB fO2 fU2 fW2 fG2 fL2 len2 size2) := hD.sub (ws' := (wd_X h0 qO qU qW qG qN qL cJ cI cZ cB fO2 fU2 fW2 fG2 fL2 len2 size2)) [0, 1, 2, 3, 4, 5, 6] (by decide) rfl
    try dsimp only at hw
    refine lv_goto (tgt := 14) hx hb dc_L_again_5 (by decide) ?_
    refine lv_iconst (v := 0) hx hb dc_L_again_14 (by decide) ?_
    exact W.iret (v := (0 : Int32)) hx hb hr (fun t ht hW => ⟨⟨(0 : Int32), (fO2, fU2, fW2, fG2, fL2, len2, size2), rfl, hw, by rw [ht]; exact hP, va_K.moved hW.alike hK, hD⟩, hS.F ht⟩) hS.2.2 dc_L_again_15
  · obtain ⟨fO2x, fU2x, fW2x, fG2x, fL2x, len2x, size2x⟩ := u
    try dsimp only at hw
    rcases hw with ⟨rfl, hw⟩ | ⟨rfl, hw⟩
    · have hP : va_P (dC, dI) cs_3 (wd_X h0 qO qU qW qG qN qL cJ cI cZ cB fO2x fU2x fW2x fG2x fL2x len2x size2x) H := hP.sub (ws' := (wd_X h0 qO qU qW qG qN qL cJ cI cZ cB fO2x fU2x fW2x fG2x fL2x len2x size2x)) [0, 1, 2, 3, 4, 5, 6] rfl
      have hD : va_D A (wd_X h0 qO qU qW qG qN qL cJ cI cZ cB fO2x fU2x fW2x fG2x fL2x len2x size2x) := hD.sub (ws' := (wd_X h0 qO qU qW qG qN qL cJ cI cZ cB fO2x fU2x fW2x fG2x fL2x len2x size2x)) [0, 1, 2, 3, 4, 5, 6] (by decide) rfl
      refine vx_catch hown [] ⟨0, 5, 8, 13⟩ [⟨0, 5, 11, 15⟩] htab (fun z hz => (List.not_mem_nil hz).elim) (by decide) (by decide) (hq mw_t66) (va_Nw.use rfl (en_C77 hE)) hce hcv hcl ?_
      refine lv_astore_n (lv' := [(2, .ref q9), (0, .ref h0), (1, .int a1)]) hx hb dc_L_again_8 rfl hl (Nat.le_of_ble_eq_true rfl) rfl (fun ls hl => ?_)
      refine lv_iconst (v := 1) hx hb dc_L_again_9 (by decide) ?_
      exact W.iret (v := (1 : Int32)) hx hb hr (fun t ht hW => ⟨⟨(1 : Int32), (fO2x, fU2x, fW2x, fG2x, fL2x, len2x, size2x), rfl, hw, by rw [ht]; exact hP, va_K.moved hW.alike hK, hD⟩, hS.F ht⟩) hS.2.2 dc_L_again_10
    · have hP : va_P (dC, dI) cs_3 (wd_X h0 qO qU qW qG qN qL cJ cI cZ cB fO2x fU2x fW2x fG2x fL2x len2x size2x) H := hP.sub (ws' := (wd_X h0 qO qU qW qG qN qL cJ cI cZ cB fO2x fU2x fW2x fG2x fL2x len2x size2x)) [0, 1, 2, 3, 4, 5, 6] rfl
      have hD : va_D A (wd_X h0 qO qU qW qG qN qL cJ cI cZ cB fO2x fU2x fW2x fG2x fL2x len2x size2x) := hD.sub (ws' := (wd_X h0 qO qU qW qG qN qL cJ cI cZ cB fO2x fU2x fW2x fG2x fL2x len2x size2x)) [0, 1, 2, 3, 4, 5, 6] (by decide) rfl
      refine vx_catch hown [⟨0, 5, 8, 13⟩] ⟨0, 5, 11, 15⟩ [] htab (fun z hz => by obtain rfl := List.mem_singleton.mp hz; exact Or.inr ⟨by decide, "java/lang/IllegalArgumentException", hq mw_t66, hC⟩) (by decide) (by decide) (hq mw_t67) (va_Nw.use rfl (en_C148 hE)) hce hcv hcl ?_
      refine lv_astore_n (lv' := [(2, .ref q9), (0, .ref h0), (1, .int a1)]) hx hb dc_L_again_11 rfl hl (Nat.le_of_ble_eq_true rfl) rfl (fun ls hl => ?_)
      refine lv_iconst (v := 2) hx hb dc_L_again_12 (by decide) ?_
      exact W.iret (v := (2 : Int32)) hx hb hr (fun t ht hW => ⟨⟨(2 : Int32), (fO2x, fU2x, fW2x, fG2x, fL2x, len2x, size2x), rfl, hw, by rw [ht]; exact hP, va_K.moved hW.alike hK, hD⟩, hS.F ht⟩) hS.2.2 dc_L_again_13
set_option maxHeartbeats 4000000 in
set_option maxRecDepth 100000 in
theorem kt_L_text (l : Launch) (hlt : l.stackTraces = false) (dC : Nat → ClassId) (dI : Nat → Nat → Nat) (cJ cI cZ cB : ClassId) (h0 qO qU qW qG qN qL qo : Nat) (sz : Nat) (a1 : Int32) (a2 : Int32) (fO : (Nat → Int64)) (fU : (Nat → Int64)) (fW : (Nat → Int32)) (fG : (Nat → Int32)) (fL : (Nat → Int32)) (len : Int32) (size : Int32) (fo : (Nat → Int64)) (post : Int32 → (Nat → Int64) → (Nat → Int64) → (Nat → Int32) → (Nat → Int32) → (Nat → Int32) → Int32 → Int32 → (Nat → Int64) → Prop) (hw : wp_L_text post a1 a2 fO fU fW fG fL len size fo) : Met l yn_L_text ws_L_text rm_L_text (va_Pc [.ref h0, .int a1, .int a2, .ref qo] (pc_H (dC, dI) (ty_4 cJ cI cZ cB) (wd_H h0 qO qU qW qG qN qL qo cJ cI cZ cB fO fU fW fG fL len size fo) sz)) (qi_H dC dI cJ cI cZ cB h0 qO qU qW qG qN qL qo post (va_A (wd_H h0 qO qU qW qG qN qL qo cJ cI cZ cB fO fU fW fG fL len size fo) sz)) 1 6 (va_A (wd_H h0 qO qU qW qG qN qL qo cJ cI cZ cB fO fU fW fG fL len size fo) sz) := by
  refine va_MetW (cc := cd_L_text) (maxL := 5) (ret := (some .int)) (by decide) rfl ?_
  intro p e s m args below meth c s₁ B hml hv
  obtain ⟨rfl, ⟨⟨hsz, hP, hK, hD0, hE⟩, hZ⟩, hC⟩ := hv
  have hx := B.exec
  have hb := B.bytes
  have hr := B.returns
  have hts := atoms_spec (ws := ws_L_text) B.pre
  have hq : ∀ {w : Cond}, w ∈ wg_all → w.before ([.ref h0, .int a1, .int a2, .ref qo] : List Value).toArray s = true := fun h => hts _ (List.mem_cons_of_mem _ h)
  have hu : ∀ L : List Cond, (∀ w ∈ L, w ∈ wg_all) → ∀ w ∈ L, w ∈ ws_L_text := fun L h w hw => List.mem_cons_of_mem _ (h w hw)
  have hown : s.vm.findClass "FourWordsLaw" = some m.cls := findClass_of_methodNamed B.named
  have hlocks := B.notSynchronized
  subst hsz
  have hD := hD0.self (sz := s.heap.size)
  have htab : c.exceptionTable.toList = [⟨0, 10, 13, 13⟩, ⟨0, 10, 17, 15⟩] := vx_table (x := yn_L_text) B (hts _ List.mem_cons_self)
  generalize hAe : va_A (wd_H h0 qO qU qW qG qN qL qo cJ cI cZ cB fO fU fW fG fL len size fo) s.heap.size = A at hD hZ ⊢
  have hA : ∀ q : Nat, s.heap.size ≤ q → A q := fun q h => by rw [← hAe]; exact Or.inr h
  have hS : va_S A s.heap s.heap [] := va_S.rf
  have hl := lv_entry [.ref h0, .int a1, .int a2, .ref qo] (n := 5) (Nat.le_of_ble_eq_true rfl)
  rw [lg_entry_eq]
  generalize (lg_sl [.ref h0, .int a1, .int a2, .ref qo] ++ List.replicate (5 - (lg_sl [.ref h0, .int a1, .int a2, .ref qo]).length) Slot.unset).toArray = ls at hl ⊢
  have hl : lv_has ls 5 [(0, .ref h0), (1, .int a1), (2, .int a2), (3, .ref qo)] := hl
  unfold wp_L_text at hw
  refine lv_aload_n hx hb dc_L_text_0 rfl (lv_at hl 3 rfl) ?_
  refine lv_iconst (v := 0) hx hb dc_L_text_1 (by decide) ?_
  refine lv_aload_n hx hb dc_L_text_2 rfl (lv_at hl 0 rfl) ?_
  refine lv_iload_n hx hb dc_L_text_3 rfl (lv_at hl 1 rfl) ?_
  refine lv_iload_n hx hb dc_L_text_4 rfl (lv_at hl 2 rfl) ?_
  refine gx_i (S := (Nat → Int64) × (Nat → Int64) × (Nat → Int32) × (Nat → Int32) × (Nat → Int32) × Int32 × Int32) (w1 := (fun u => (wd_X h0 qO qU qW qG qN qL cJ cI cZ cB u.1 u.2.1 u.2.2.1 u.2.2.2.1 u.2.2.2.2.1 u.2.2.2.2.2.1 u.2.2.2.2.2.2))) (w2 := (fun u => (wd_X h0 qO qU qW qG qN qL cJ cI cZ cB u.2.1 u.2.2.1 u.2.2.2.1 u.2.2.2.2.1 u.2.2.2.2.2.1 u.2.2.2.2.2.2.1 u.2.2.2.2.2.2.2))) (wc := (wd_X h0 qO qU qW qG qN qL cJ cI cZ cB fO fU fW fG fL len size)) (wr := ([(qo, .inl (cJ, 1, .inr (.inl fo)))] : va_W)) (vx_runV (As := [.int a1, .int a2]) (rest := [.int (0 : Int32), .ref qo]) ⟨hx, hb, hml, hown, hts⟩ (kt_X_text l hlt dC dI cJ cI cZ cB h0 qO qU qW qG qN qL _ a1 a2 fO fU fW fG fL len size _ _ hw) ⟨callB_of 2 hts (gw_in mw_t377) rfl rfl rfl (hq mw_t1) (hq mw_t374) (by decide +kernel) ⟨Nat.le_of_ble_eq_true rfl, Nat.le_of_ble_eq_true rfl⟩, hq mw_t375, hq mw_t376⟩ (pq_W (va_recv (q0 := 0) (ci := 1) hK hP rfl rfl) (hP.sub (ws' := (wd_X h0 qO qU qW qG qN qL cJ cI cZ cB fO fU fW fG fL len size)) [0, 1, 2, 3, 4, 5, 6] rfl) hK (hD.sub (ws' := (wd_X h0 qO qU qW qG qN qL cJ cI cZ cB fO fU fW fG fL len size)) [0, 1, 2, 3, 4, 5, 6] (by decide) rfl) hE (zz_W hZ hS (va_free (wc := (wd_X h0 qO qU qW qG qN qL cJ cI cZ cB fO fU fW fG fL len size)) hD hS hA [0, 1, 2, 3, 4, 5, 6] rfl))) rfl rfl hl.1 rfl (lv_room (Nat.le_of_ble_eq_true rfl)) dc_L_text_5 ⟨Nat.le_of_ble_eq_true rfl, Nat.le_of_ble_eq_true rfl⟩) hP hD hS hA [0, 1, 2, 3, 4, 5, 6] [7] rfl rfl (by decide) (by decide) (fun r5 u H locs hw hP hD hS => ?_) (fun E9 u q9 ce H locs hw hP hD hS hce hcv hcl => ?_)
  · obtain ⟨fO5, fU5, fW5, fG5, fL5, len5, size5⟩ := u
    have hP : va_P (dC, dI) cs_3 (wd_H h0 qO qU qW qG qN qL qo cJ cI cZ cB fO5 fU5 fW5 fG5 fL5 len5 size5 fo) H := hP.sub (ws' := (wd_H h0 qO qU qW qG qN qL qo cJ cI cZ cB fO5 fU5 fW5 fG5 fL5 len5 size5 fo)) [1, 2, 3, 4, 5, 6, 7, 0] rfl
    have hD : va_D A (wd_H h0 qO qU qW qG qN qL qo cJ cI cZ cB fO5 fU5 fW5 fG5 fL5 len5 size5 fo) := hD.sub (ws' := (wd_H h0 qO qU qW qG qN qL qo cJ cI cZ cB fO5 fU5 fW5 fG5 fL5 len5 size5 fo)) [1, 2, 3, 4, 5, 6, 7, 0] (by decide) rfl
    try dsimp only at hw
    refine lv_i2l hx hb dc_L_text_8 rfl ?_
    obtain ⟨hin, hw⟩ := hw
    refine va_last hx hb hK hP hD hS 7 0 rfl rfl hin dc_L_text_9 (fun H locs hP hD hS => ?_)
    have hP : va_P (dC, dI) cs_3 (wd_H h0 qO qU qW qG qN qL qo cJ cI cZ cB fO5 fU5 fW5 fG5 fL5 len5 size5 (vp_updL fo (0 : Int32).toNatClampNeg r5.toInt64)) H := hP
    have hD : va_D A (wd_H h0 qO qU qW qG qN qL qo cJ cI cZ cB fO5 fU5 fW5 fG5 fL5 len5 size5 (vp_updL fo (0 : Int32).toNatClampNeg r5.toInt64)) := hD
    refine lv_goto (tgt := 21) hx hb dc_L_text_10 (by decide) ?_
    refine lv_iconst (v := 0) hx hb dc_L_text_21 (by decide) ?_
    exact W.iret (v := (0 : Int32)) hx hb hr (fun t ht hW => ⟨⟨(0 : Int32), (fO5, fU5, fW5, fG5, fL5, len5, size5, vp_updL fo (0 : Int32).toNatClampNeg r5.toInt64), rfl, hw, by rw [ht]; exact hP, va_K.moved hW.alike hK, hD⟩, hS.F ht⟩) hS.2.2 dc_L_text_22
  · obtain ⟨fO5x, fU5x, fW5x, fG5x, fL5x, len5x, size5x⟩ := u
    try dsimp only at hw
    rcases hw with ⟨rfl, hw⟩ | ⟨rfl, hw⟩
    · have hP : va_P (dC, dI) cs_3 (wd_H h0 qO qU qW qG qN qL qo cJ cI cZ cB fO5x fU5x fW5x fG5x fL5x len5x size5x fo) H := hP.sub (ws' := (wd_H h0 qO qU qW qG qN qL qo cJ cI cZ cB fO5x fU5x fW5x fG5x fL5x len5x size5x fo)) [1, 2, 3, 4, 5, 6, 7, 0] rfl
      have hD : va_D A (wd_H h0 qO qU qW qG qN qL qo cJ cI cZ cB fO5x fU5x fW5x fG5x fL5x len5x size5x fo) := hD.sub (ws' := (wd_H h0 qO qU qW qG qN qL qo cJ cI cZ cB fO5x fU5x fW5x fG5x fL5x len5x size5x fo)) [1, 2, 3, 4, 5, 6, 7, 0] (by decide) rfl
      refine vx_catch hown [] ⟨0, 10, 13, 13⟩ [⟨0, 10, 17, 15⟩] htab (fun z hz => (List.not_mem_nil hz).elim) (by decide) (by decide) (hq mw_t66) (va_Nw.use rfl (en_C77 hE)) hce hcv hcl ?_
      refine lv_astore (lv' := [(4, .ref q9), (0, .ref h0), (1, .int a1), (2, .int a2), (3, .ref qo)]) hx hb dc_L_text_13 hl (Nat.le_of_ble_eq_true rfl) rfl (fun ls hl => ?_)
      refine lv_iconst (v := 1) hx hb dc_L_text_15 (by decide) ?_
      exact W.iret (v := (1 : Int32)) hx hb hr (fun t ht hW => ⟨⟨(1 : Int32), (fO5x, fU5x, fW5x, fG5x, fL5x, len5x, size5x, fo), rfl, hw, by rw [ht]; exact hP, va_K.moved hW.alike hK, hD⟩, hS.F ht⟩) hS.2.2 dc_L_text_16
    · have hP : va_P (dC, dI) cs_3 (wd_H h0 qO qU qW qG qN qL qo cJ cI cZ cB fO5x fU5x fW5x fG5x fL5x len5x size5x fo) H := hP.sub (ws' := (wd_H h0 qO qU qW qG qN qL qo cJ cI cZ cB fO5x fU5x fW5x fG5x fL5x len5x size5x fo)) [1, 2, 3, 4, 5, 6, 7, 0] rfl
      have hD : va_D A (wd_H h0 qO qU qW qG qN qL qo cJ cI cZ cB fO5x fU5x fW5x fG5x fL5x len5x size5x fo) := hD.sub (ws' := (wd_H h0 qO qU qW qG qN qL qo cJ cI cZ cB fO5x fU5x fW5x fG5x fL5x len5x size5x fo)) [1, 2, 3, 4, 5, 6, 7, 0] (by decide) rfl
      refine vx_catch hown [⟨0, 10, 13, 13⟩] ⟨0, 10, 17, 15⟩ [] htab (fun z hz => by obtain rfl := List.mem_singleton.mp hz; exact Or.inr ⟨by decide, "java/lang/IllegalArgumentException", hq mw_t66, hC⟩) (by decide) (by decide) (hq mw_t67) (va_Nw.use rfl (en_C148 hE)) hce hcv hcl ?_
      refine lv_astore (lv' := [(4, .ref q9), (0, .ref h0), (1, .int a1), (2, .int a2), (3, .ref qo)]) hx hb dc_L_text_17 hl (Nat.le_of_ble_eq_true rfl) rfl (fun ls hl => ?_)
      refine lv_iconst (v := 2) hx hb dc_L_text_19 (by decide) ?_
      exact W.iret (v := (2 : Int32)) hx hb hr (fun t ht hW => ⟨⟨(2 : Int32), (fO5x, fU5x, fW5x, fG5x, fL5x, len5x, size5x, fo), rfl, hw, by rw [ht]; exact hP, va_K.moved hW.alike hK, hD⟩, hS.F ht⟩) hS.2.2 dc_L_text_20
set_option maxHeartbeats 4000000 in
set_option maxRecDepth 100000 in
theorem kt_L_letter (l : Launch) (hlt : l.stackTraces = false) (dC : Nat → ClassId) (dI : Nat → Nat → Nat) (cJ cI cZ cB : ClassId) (h0 qO qU qW qG qN qL qo : Nat) (sz : Nat) (a1 : Int32) (fO : (Nat → Int64)) (fU : (Nat → Int64)) (fW : (Nat → Int32)) (fG : (Nat → Int32)) (fL : (Nat → Int32)) (len : Int32) (size : Int32) (fo : (Nat → Int64)) (post : Int32 → (Nat → Int64) → (Nat → Int64) → (Nat → Int32) → (Nat → Int32) → (Nat → Int32) → Int32 → Int32 → (Nat → Int64) → Prop) (hw : wp_L_letter post a1 fO fU fW fG fL len size fo) : Met l yn_L_letter ws_L_letter rm_L_letter (va_Pc [.ref h0, .int a1, .ref qo] (pc_H (dC, dI) (ty_4 cJ cI cZ cB) (wd_H h0 qO qU qW qG qN qL qo cJ cI cZ cB fO fU fW fG fL len size fo) sz)) (qi_H dC dI cJ cI cZ cB h0 qO qU qW qG qN qL qo post (va_A (wd_H h0 qO qU qW qG qN qL qo cJ cI cZ cB fO fU fW fG fL len size fo) sz)) 1 6 (va_A (wd_H h0 qO qU qW qG qN qL qo cJ cI cZ cB fO fU fW fG fL len size fo) sz) := by
  refine va_MetW (cc := cd_L_letter) (maxL := 4) (ret := (some .int)) (by decide) rfl ?_
  intro p e s m args below meth c s₁ B hml hv
  obtain ⟨rfl, ⟨⟨hsz, hP, hK, hD0, hE⟩, hZ⟩, hC⟩ := hv
  have hx := B.exec
  have hb := B.bytes
  have hr := B.returns
  have hts := atoms_spec (ws := ws_L_letter) B.pre
  have hq : ∀ {w : Cond}, w ∈ wg_all → w.before ([.ref h0, .int a1, .ref qo] : List Value).toArray s = true := fun h => hts _ (List.mem_cons_of_mem _ h)
  have hu : ∀ L : List Cond, (∀ w ∈ L, w ∈ wg_all) → ∀ w ∈ L, w ∈ ws_L_letter := fun L h w hw => List.mem_cons_of_mem _ (h w hw)
  have hown : s.vm.findClass "FourWordsLaw" = some m.cls := findClass_of_methodNamed B.named
  have hlocks := B.notSynchronized
  subst hsz
  have hD := hD0.self (sz := s.heap.size)
  have htab : c.exceptionTable.toList = [⟨0, 9, 12, 58⟩] := vx_table (x := yn_L_letter) B (hts _ List.mem_cons_self)
  generalize hAe : va_A (wd_H h0 qO qU qW qG qN qL qo cJ cI cZ cB fO fU fW fG fL len size fo) s.heap.size = A at hD hZ ⊢
  have hA : ∀ q : Nat, s.heap.size ≤ q → A q := fun q h => by rw [← hAe]; exact Or.inr h
  have hS : va_S A s.heap s.heap [] := va_S.rf
  have hl := lv_entry [.ref h0, .int a1, .ref qo] (n := 4) (Nat.le_of_ble_eq_true rfl)
  rw [lg_entry_eq]
  generalize (lg_sl [.ref h0, .int a1, .ref qo] ++ List.replicate (4 - (lg_sl [.ref h0, .int a1, .ref qo]).length) Slot.unset).toArray = ls at hl ⊢
  have hl : lv_has ls 4 [(0, .ref h0), (1, .int a1), (2, .ref qo)] := hl
  unfold wp_L_letter at hw
  refine lv_aload_n hx hb dc_L_letter_0 rfl (lv_at hl 2 rfl) ?_
  refine lv_iconst (v := 0) hx hb dc_L_letter_1 (by decide) ?_
  refine lv_aload_n hx hb dc_L_letter_2 rfl (lv_at hl 0 rfl) ?_
  refine lv_iload_n hx hb dc_L_letter_3 rfl (lv_at hl 1 rfl) ?_
  refine gx_i (S := (Nat → Int64) × (Nat → Int64) × (Nat → Int32) × (Nat → Int32) × (Nat → Int32) × Int32 × Int32) (w1 := (fun u => (wd_X h0 qO qU qW qG qN qL cJ cI cZ cB u.1 u.2.1 u.2.2.1 u.2.2.2.1 u.2.2.2.2.1 u.2.2.2.2.2.1 u.2.2.2.2.2.2))) (w2 := (fun u => (wd_X h0 qO qU qW qG qN qL cJ cI cZ cB u.2.1 u.2.2.1 u.2.2.2.1 u.2.2.2.2.1 u.2.2.2.2.2.1 u.2.2.2.2.2.2.1 u.2.2.2.2.2.2.2))) (wc := (wd_X h0 qO qU qW qG qN qL cJ cI cZ cB fO fU fW fG fL len size)) (wr := ([(qo, .inl (cJ, 1, .inr (.inl fo)))] : va_W)) (vx_runV (As := [.int a1]) (rest := [.int (0 : Int32), .ref qo]) ⟨hx, hb, hml, hown, hts⟩ (kt_X_letter l hlt dC dI cJ cI cZ cB h0 qO qU qW qG qN qL _ a1 fO fU fW fG fL len size _ _ hw) ⟨callB_of 1 hts (gw_in mw_t430) rfl rfl rfl (hq mw_t1) (hq mw_t427) (by decide +kernel) ⟨Nat.le_of_ble_eq_true rfl, Nat.le_of_ble_eq_true rfl⟩, hq mw_t428, hq mw_t429⟩ (pq_W (va_recv (q0 := 0) (ci := 1) hK hP rfl rfl) (hP.sub (ws' := (wd_X h0 qO qU qW qG qN qL cJ cI cZ cB fO fU fW fG fL len size)) [0, 1, 2, 3, 4, 5, 6] rfl) hK (hD.sub (ws' := (wd_X h0 qO qU qW qG qN qL cJ cI cZ cB fO fU fW fG fL len size)) [0, 1, 2, 3, 4, 5, 6] (by decide) rfl) hE (zz_W hZ hS (va_free (wc := (wd_X h0 qO qU qW qG qN qL cJ cI cZ cB fO fU fW fG fL len size)) hD hS hA [0, 1, 2, 3, 4, 5, 6] rfl))) rfl rfl hl.1 rfl (lv_room (Nat.le_of_ble_eq_true rfl)) dc_L_letter_4 ⟨Nat.le_of_ble_eq_true rfl, Nat.le_of_ble_eq_true rfl⟩) hP hD hS hA [0, 1, 2, 3, 4, 5, 6] [7] rfl rfl (by decide) (by decide) (fun r4 u H locs hw hP hD hS => ?_) (fun E9 u q9 ce H locs hw hP hD hS hce hcv hcl => ?_)
  · obtain ⟨fO4, fU4, fW4, fG4, fL4, len4, size4⟩ := u
    have hP : va_P (dC, dI) cs_3 (wd_H h0 qO qU qW qG qN qL qo cJ cI cZ cB fO4 fU4 fW4 fG4 fL4 len4 size4 fo) H := hP.sub (ws' := (wd_H h0 qO qU qW qG qN qL qo cJ cI cZ cB fO4 fU4 fW4 fG4 fL4 len4 size4 fo)) [1, 2, 3, 4, 5, 6, 7, 0] rfl
    have hD : va_D A (wd_H h0 qO qU qW qG qN qL qo cJ cI cZ cB fO4 fU4 fW4 fG4 fL4 len4 size4 fo) := hD.sub (ws' := (wd_H h0 qO qU qW qG qN qL qo cJ cI cZ cB fO4 fU4 fW4 fG4 fL4 len4 size4 fo)) [1, 2, 3, 4, 5, 6, 7, 0] (by decide) rfl
    try dsimp only at hw
    refine lv_i2l hx hb dc_L_letter_7 rfl ?_
    obtain ⟨hin, hw⟩ := hw
    refine va_last hx hb hK hP hD hS 7 0 rfl rfl hin dc_L_letter_8 (fun H locs hP hD hS => ?_)
    have hP : va_P (dC, dI) cs_3 (wd_H h0 qO qU qW qG qN qL qo cJ cI cZ cB fO4 fU4 fW4 fG4 fL4 len4 size4 (vp_updL fo (0 : Int32).toNatClampNeg r4.toInt64)) H := hP
    have hD : va_D A (wd_H h0 qO qU qW qG qN qL qo cJ cI cZ cB fO4 fU4 fW4 fG4 fL4 len4 size4 (vp_updL fo (0 : Int32).toNatClampNeg r4.toInt64)) := hD
    refine lv_goto (tgt := 15) hx hb dc_L_letter_9 (by decide) ?_
    refine lv_iconst (v := 0) hx hb dc_L_letter_15 (by decide) ?_
    exact W.iret (v := (0 : Int32)) hx hb hr (fun t ht hW => ⟨⟨(0 : Int32), (fO4, fU4, fW4, fG4, fL4, len4, size4, vp_updL fo (0 : Int32).toNatClampNeg r4.toInt64), rfl, hw, by rw [ht]; exact hP, va_K.moved hW.alike hK, hD⟩, hS.F ht⟩) hS.2.2 dc_L_letter_16
  · obtain ⟨fO4x, fU4x, fW4x, fG4x, fL4x, len4x, size4x⟩ := u
    try dsimp only at hw
    obtain ⟨rfl, hw⟩ := hw
    have hP : va_P (dC, dI) cs_3 (wd_H h0 qO qU qW qG qN qL qo cJ cI cZ cB fO4x fU4x fW4x fG4x fL4x len4x size4x fo) H := hP.sub (ws' := (wd_H h0 qO qU qW qG qN qL qo cJ cI cZ cB fO4x fU4x fW4x fG4x fL4x len4x size4x fo)) [1, 2, 3, 4, 5, 6, 7, 0] rfl
    have hD : va_D A (wd_H h0 qO qU qW qG qN qL qo cJ cI cZ cB fO4x fU4x fW4x fG4x fL4x len4x size4x fo) := hD.sub (ws' := (wd_H h0 qO qU qW qG qN qL qo cJ cI cZ cB fO4x fU4x fW4x fG4x fL4x len4x size4x fo)) [1, 2, 3, 4, 5, 6, 7, 0] (by decide) rfl
    refine vx_catch hown [] ⟨0, 9, 12, 58⟩ [] htab (fun z hz => (List.not_mem_nil hz).elim) (by decide) (by decide) (hq mw_t426) (va_Nw.use rfl (en_C433 hE)) hce hcv hcl ?_
    refine lv_astore_n (lv' := [(3, .ref q9), (0, .ref h0), (1, .int a1), (2, .ref qo)]) hx hb dc_L_letter_12 rfl hl (Nat.le_of_ble_eq_true rfl) rfl (fun ls hl => ?_)
    refine lv_iconst (v := 1) hx hb dc_L_letter_13 (by decide) ?_
    exact W.iret (v := (1 : Int32)) hx hb hr (fun t ht hW => ⟨⟨(1 : Int32), (fO4x, fU4x, fW4x, fG4x, fL4x, len4x, size4x, fo), rfl, hw, by rw [ht]; exact hP, va_K.moved hW.alike hK, hD⟩, hS.F ht⟩) hS.2.2 dc_L_letter_14
set_option maxHeartbeats 4000000 in
set_option maxRecDepth 100000 in
theorem kt_L_told (l : Launch) (hlt : l.stackTraces = false) (dC : Nat → ClassId) (dI : Nat → Nat → Nat) (cJ cI cZ cB : ClassId) (h0 qO qU qW qG qN qL qo : Nat) (sz : Nat) (a1 : Int32) (a2 : Int32) (fO : (Nat → Int64)) (fU : (Nat → Int64)) (fW : (Nat → Int32)) (fG : (Nat → Int32)) (fL : (Nat → Int32)) (len : Int32) (size : Int32) (fo : (Nat → Int64)) (post : Int32 → (Nat → Int64) → (Nat → Int64) → (Nat → Int32) → (Nat → Int32) → (Nat → Int32) → Int32 → Int32 → (Nat → Int64) → Prop) (hw : wp_L_told post a1 a2 fO fU fW fG fL len size fo) : Met l yn_L_told ws_L_told rm_L_told (va_Pc [.ref h0, .int a1, .int a2, .ref qo] (pc_H (dC, dI) (ty_4 cJ cI cZ cB) (wd_H h0 qO qU qW qG qN qL qo cJ cI cZ cB fO fU fW fG fL len size fo) sz)) (qi_H dC dI cJ cI cZ cB h0 qO qU qW qG qN qL qo post (va_A (wd_H h0 qO qU qW qG qN qL qo cJ cI cZ cB fO fU fW fG fL len size fo) sz)) 1 6 (va_A (wd_H h0 qO qU qW qG qN qL qo cJ cI cZ cB fO fU fW fG fL len size fo) sz) := by
  refine va_MetW (cc := cd_L_told) (maxL := 5) (ret := (some .int)) (by decide) rfl ?_
  intro p e s m args below meth c s₁ B hml hv
  obtain ⟨rfl, ⟨⟨hsz, hP, hK, hD0, hE⟩, hZ⟩, hC⟩ := hv
  have hx := B.exec
  have hb := B.bytes
  have hr := B.returns
  have hts := atoms_spec (ws := ws_L_told) B.pre
  have hq : ∀ {w : Cond}, w ∈ wg_all → w.before ([.ref h0, .int a1, .int a2, .ref qo] : List Value).toArray s = true := fun h => hts _ (List.mem_cons_of_mem _ h)
  have hu : ∀ L : List Cond, (∀ w ∈ L, w ∈ wg_all) → ∀ w ∈ L, w ∈ ws_L_told := fun L h w hw => List.mem_cons_of_mem _ (h w hw)
  have hown : s.vm.findClass "FourWordsLaw" = some m.cls := findClass_of_methodNamed B.named
  have hlocks := B.notSynchronized
  subst hsz
  have hD := hD0.self (sz := s.heap.size)
  have htab : c.exceptionTable.toList = [⟨0, 9, 12, 13⟩, ⟨0, 9, 16, 15⟩] := vx_table (x := yn_L_told) B (hts _ List.mem_cons_self)
  generalize hAe : va_A (wd_H h0 qO qU qW qG qN qL qo cJ cI cZ cB fO fU fW fG fL len size fo) s.heap.size = A at hD hZ ⊢
  have hA : ∀ q : Nat, s.heap.size ≤ q → A q := fun q h => by rw [← hAe]; exact Or.inr h
  have hS : va_S A s.heap s.heap [] := va_S.rf
  have hl := lv_entry [.ref h0, .int a1, .int a2, .ref qo] (n := 5) (Nat.le_of_ble_eq_true rfl)
  rw [lg_entry_eq]
  generalize (lg_sl [.ref h0, .int a1, .int a2, .ref qo] ++ List.replicate (5 - (lg_sl [.ref h0, .int a1, .int a2, .ref qo]).length) Slot.unset).toArray = ls at hl ⊢
  have hl : lv_has ls 5 [(0, .ref h0), (1, .int a1), (2, .int a2), (3, .ref qo)] := hl
  unfold wp_L_told at hw
  refine lv_aload_n hx hb dc_L_told_0 rfl (lv_at hl 3 rfl) ?_
  refine lv_iconst (v := 0) hx hb dc_L_told_1 (by decide) ?_
  refine lv_aload_n hx hb dc_L_told_2 rfl (lv_at hl 0 rfl) ?_
  refine lv_iload_n hx hb dc_L_told_3 rfl (lv_at hl 1 rfl) ?_
  refine lv_iload_n hx hb dc_L_told_4 rfl (lv_at hl 2 rfl) ?_
  refine gx_l (S := (Nat → Int64) × (Nat → Int64) × (Nat → Int32) × (Nat → Int32) × (Nat → Int32) × Int32 × Int32) (w1 := (fun u => (wd_X h0 qO qU qW qG qN qL cJ cI cZ cB u.1 u.2.1 u.2.2.1 u.2.2.2.1 u.2.2.2.2.1 u.2.2.2.2.2.1 u.2.2.2.2.2.2))) (w2 := (fun u => (wd_X h0 qO qU qW qG qN qL cJ cI cZ cB u.2.1 u.2.2.1 u.2.2.2.1 u.2.2.2.2.1 u.2.2.2.2.2.1 u.2.2.2.2.2.2.1 u.2.2.2.2.2.2.2))) (wc := (wd_X h0 qO qU qW qG qN qL cJ cI cZ cB fO fU fW fG fL len size)) (wr := ([(qo, .inl (cJ, 1, .inr (.inl fo)))] : va_W)) (vx_runV (As := [.int a1, .int a2]) (rest := [.int (0 : Int32), .ref qo]) ⟨hx, hb, hml, hown, hts⟩ (kt_X_told l hlt dC dI cJ cI cZ cB h0 qO qU qW qG qN qL _ a1 a2 fO fU fW fG fL len size _ _ hw) ⟨callB_of 2 hts (gw_in mw_t453) rfl rfl rfl (hq mw_t1) (hq mw_t450) (by decide +kernel) ⟨Nat.le_of_ble_eq_true rfl, Nat.le_of_ble_eq_true rfl⟩, hq mw_t451, hq mw_t452⟩ (pq_W (va_recv (q0 := 0) (ci := 1) hK hP rfl rfl) (hP.sub (ws' := (wd_X h0 qO qU qW qG qN qL cJ cI cZ cB fO fU fW fG fL len size)) [0, 1, 2, 3, 4, 5, 6] rfl) hK (hD.sub (ws' := (wd_X h0 qO qU qW qG qN qL cJ cI cZ cB fO fU fW fG fL len size)) [0, 1, 2, 3, 4, 5, 6] (by decide) rfl) hE (zz_W hZ hS (va_free (wc := (wd_X h0 qO qU qW qG qN qL cJ cI cZ cB fO fU fW fG fL len size)) hD hS hA [0, 1, 2, 3, 4, 5, 6] rfl))) rfl rfl hl.1 rfl (lv_room (Nat.le_of_ble_eq_true rfl)) dc_L_told_5 ⟨Nat.le_of_ble_eq_true rfl, Nat.le_of_ble_eq_true rfl⟩) hP hD hS hA [0, 1, 2, 3, 4, 5, 6] [7] rfl rfl (by decide) (by decide) (fun r5 u H locs hw hP hD hS => ?_) (fun E9 u q9 ce H locs hw hP hD hS hce hcv hcl => ?_)
  · obtain ⟨fO5, fU5, fW5, fG5, fL5, len5, size5⟩ := u
    have hP : va_P (dC, dI) cs_3 (wd_H h0 qO qU qW qG qN qL qo cJ cI cZ cB fO5 fU5 fW5 fG5 fL5 len5 size5 fo) H := hP.sub (ws' := (wd_H h0 qO qU qW qG qN qL qo cJ cI cZ cB fO5 fU5 fW5 fG5 fL5 len5 size5 fo)) [1, 2, 3, 4, 5, 6, 7, 0] rfl
    have hD : va_D A (wd_H h0 qO qU qW qG qN qL qo cJ cI cZ cB fO5 fU5 fW5 fG5 fL5 len5 size5 fo) := hD.sub (ws' := (wd_H h0 qO qU qW qG qN qL qo cJ cI cZ cB fO5 fU5 fW5 fG5 fL5 len5 size5 fo)) [1, 2, 3, 4, 5, 6, 7, 0] (by decide) rfl
    try dsimp only at hw
    obtain ⟨hin, hw⟩ := hw
    refine va_last hx hb hK hP hD hS 7 0 rfl rfl hin dc_L_told_8 (fun H locs hP hD hS => ?_)
    have hP : va_P (dC, dI) cs_3 (wd_H h0 qO qU qW qG qN qL qo cJ cI cZ cB fO5 fU5 fW5 fG5 fL5 len5 size5 (vp_updL fo (0 : Int32).toNatClampNeg r5)) H := hP
    have hD : va_D A (wd_H h0 qO qU qW qG qN qL qo cJ cI cZ cB fO5 fU5 fW5 fG5 fL5 len5 size5 (vp_updL fo (0 : Int32).toNatClampNeg r5)) := hD
    refine lv_goto (tgt := 20) hx hb dc_L_told_9 (by decide) ?_
    refine lv_iconst (v := 0) hx hb dc_L_told_20 (by decide) ?_
    exact W.iret (v := (0 : Int32)) hx hb hr (fun t ht hW => ⟨⟨(0 : Int32), (fO5, fU5, fW5, fG5, fL5, len5, size5, vp_updL fo (0 : Int32).toNatClampNeg r5), rfl, hw, by rw [ht]; exact hP, va_K.moved hW.alike hK, hD⟩, hS.F ht⟩) hS.2.2 dc_L_told_21
  · obtain ⟨fO5x, fU5x, fW5x, fG5x, fL5x, len5x, size5x⟩ := u
    try dsimp only at hw
    rcases hw with ⟨rfl, hw⟩ | ⟨rfl, hw⟩
    · have hP : va_P (dC, dI) cs_3 (wd_H h0 qO qU qW qG qN qL qo cJ cI cZ cB fO5x fU5x fW5x fG5x fL5x len5x size5x fo) H := hP.sub (ws' := (wd_H h0 qO qU qW qG qN qL qo cJ cI cZ cB fO5x fU5x fW5x fG5x fL5x len5x size5x fo)) [1, 2, 3, 4, 5, 6, 7, 0] rfl
      have hD : va_D A (wd_H h0 qO qU qW qG qN qL qo cJ cI cZ cB fO5x fU5x fW5x fG5x fL5x len5x size5x fo) := hD.sub (ws' := (wd_H h0 qO qU qW qG qN qL qo cJ cI cZ cB fO5x fU5x fW5x fG5x fL5x len5x size5x fo)) [1, 2, 3, 4, 5, 6, 7, 0] (by decide) rfl
      refine vx_catch hown [] ⟨0, 9, 12, 13⟩ [⟨0, 9, 16, 15⟩] htab (fun z hz => (List.not_mem_nil hz).elim) (by decide) (by decide) (hq mw_t66) (va_Nw.use rfl (en_C77 hE)) hce hcv hcl ?_
      refine lv_astore (lv' := [(4, .ref q9), (0, .ref h0), (1, .int a1), (2, .int a2), (3, .ref qo)]) hx hb dc_L_told_12 hl (Nat.le_of_ble_eq_true rfl) rfl (fun ls hl => ?_)
      refine lv_iconst (v := 1) hx hb dc_L_told_14 (by decide) ?_
      exact W.iret (v := (1 : Int32)) hx hb hr (fun t ht hW => ⟨⟨(1 : Int32), (fO5x, fU5x, fW5x, fG5x, fL5x, len5x, size5x, fo), rfl, hw, by rw [ht]; exact hP, va_K.moved hW.alike hK, hD⟩, hS.F ht⟩) hS.2.2 dc_L_told_15
    · have hP : va_P (dC, dI) cs_3 (wd_H h0 qO qU qW qG qN qL qo cJ cI cZ cB fO5x fU5x fW5x fG5x fL5x len5x size5x fo) H := hP.sub (ws' := (wd_H h0 qO qU qW qG qN qL qo cJ cI cZ cB fO5x fU5x fW5x fG5x fL5x len5x size5x fo)) [1, 2, 3, 4, 5, 6, 7, 0] rfl
      have hD : va_D A (wd_H h0 qO qU qW qG qN qL qo cJ cI cZ cB fO5x fU5x fW5x fG5x fL5x len5x size5x fo) := hD.sub (ws' := (wd_H h0 qO qU qW qG qN qL qo cJ cI cZ cB fO5x fU5x fW5x fG5x fL5x len5x size5x fo)) [1, 2, 3, 4, 5, 6, 7, 0] (by decide) rfl
      refine vx_catch hown [⟨0, 9, 12, 13⟩] ⟨0, 9, 16, 15⟩ [] htab (fun z hz => by obtain rfl := List.mem_singleton.mp hz; exact Or.inr ⟨by decide, "java/lang/IllegalArgumentException", hq mw_t66, hC⟩) (by decide) (by decide) (hq mw_t67) (va_Nw.use rfl (en_C148 hE)) hce hcv hcl ?_
      refine lv_astore (lv' := [(4, .ref q9), (0, .ref h0), (1, .int a1), (2, .int a2), (3, .ref qo)]) hx hb dc_L_told_16 hl (Nat.le_of_ble_eq_true rfl) rfl (fun ls hl => ?_)
      refine lv_iconst (v := 2) hx hb dc_L_told_18 (by decide) ?_
      exact W.iret (v := (2 : Int32)) hx hb hr (fun t ht hW => ⟨⟨(2 : Int32), (fO5x, fU5x, fW5x, fG5x, fL5x, len5x, size5x, fo), rfl, hw, by rw [ht]; exact hP, va_K.moved hW.alike hK, hD⟩, hS.F ht⟩) hS.2.2 dc_L_told_19

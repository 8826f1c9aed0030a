set_option maxRecDepth 100000 in
theorem zm_440 : Cond.methodLink RX2 86 yX2_readSign ∈ zB := zmk2 80 (by decide +kernel) rfl
set_option maxRecDepth 100000 in
theorem zm_441 : Cond.code yX2_readSign cX2_readSign 2 none ∈ zB := zmk2 83 rfl rfl
set_option maxRecDepth 100000 in
theorem zm_442 : Cond.instanceMethod yX2_readSign ∈ zB := zmk2 82 (by decide +kernel) rfl
set_option maxRecDepth 100000 in
theorem zm_443 : Cond.selects RX2 yX2_readSign yX2_readSign ∈ zB := zmk0 9 (by decide +kernel) rfl
set_option maxRecDepth 100000 in
theorem zm_444 : Cond.methodLink RX2 79 yX2_readNumber ∈ zB := zmk1 224 (by decide +kernel) rfl
set_option maxRecDepth 100000 in
theorem zm_445 : Cond.code yX2_readNumber cX2_readNumber 2 none ∈ zB := zmk1 227 rfl rfl
set_option maxRecDepth 100000 in
theorem zm_446 : Cond.instanceMethod yX2_readNumber ∈ zB := zmk1 226 (by decide +kernel) rfl
set_option maxRecDepth 100000 in
theorem zm_447 : Cond.selects RX2 yX2_readNumber yX2_readNumber ∈ zB := zmk0 7 (by decide +kernel) rfl
set_option maxRecDepth 100000 in
theorem zm_448 : Cond.methodLink RX2 83 yX2_readKind ∈ zB := zmk1 229 (by decide +kernel) rfl
set_option maxRecDepth 100000 in
theorem zm_449 : Cond.code yX2_readKind cX2_readKind 2 none ∈ zB := zmk1 232 rfl rfl
set_option maxRecDepth 100000 in
theorem zm_450 : Cond.instanceMethod yX2_readKind ∈ zB := zmk1 231 (by decide +kernel) rfl
set_option maxRecDepth 100000 in
theorem zm_451 : Cond.selects RX2 yX2_readKind yX2_readKind ∈ zB := zmk0 8 (by decide +kernel) rfl
set_option maxRecDepth 100000 in
theorem zm_452 : Cond.methodLink RX2 41 yX2_readStatement ∈ zB := zmk1 204 (by decide +kernel) rfl
set_option maxRecDepth 100000 in
theorem zm_453 : Cond.code yX2_readStatement cX2_readStatement 2 (some FieldType.int) ∈ zB := zmk1 207 rfl rfl
set_option maxRecDepth 100000 in
theorem zm_454 : Cond.instanceMethod yX2_readStatement ∈ zB := zmk1 206 (by decide +kernel) rfl
set_option maxRecDepth 100000 in
theorem zm_455 : Cond.selects RX2 yX2_readStatement yX2_readStatement ∈ zB := zmk0 2 (by decide +kernel) rfl
set_option maxRecDepth 100000 in
theorem zm_456 : Cond.methodLink RX2 45 yX2_isAsItMustBe ∈ zB := zmk2 84 (by decide +kernel) rfl
set_option maxRecDepth 100000 in
theorem zm_457 : Cond.code yX2_isAsItMustBe cX2_isAsItMustBe 3 (some FieldType.boolean) ∈ zB := zmk2 87 rfl rfl
set_option maxRecDepth 100000 in
theorem zm_458 : Cond.instanceMethod yX2_isAsItMustBe ∈ zB := zmk2 86 (by decide +kernel) rfl
set_option maxRecDepth 100000 in
theorem zm_459 : Cond.selects RX2 yX2_isAsItMustBe yX2_isAsItMustBe ∈ zB := zmk0 10 (by decide +kernel) rfl
set_option maxRecDepth 100000 in
theorem zm_460 : Cond.methodLink RX2 33 yX2_begin ∈ zB := zmk1 200 (by decide +kernel) rfl
set_option maxRecDepth 100000 in
theorem zm_461 : Cond.code yX2_begin cX2_begin 1 none ∈ zB := zmk1 203 rfl rfl
set_option maxRecDepth 100000 in
theorem zm_462 : Cond.instanceMethod yX2_begin ∈ zB := zmk1 202 (by decide +kernel) rfl
set_option maxRecDepth 100000 in
theorem zm_463 : Cond.selects RX2 yX2_begin yX2_begin ∈ zB := zmk0 1 (by decide +kernel) rfl
set_option maxRecDepth 100000 in
theorem zm_464 : Cond.fieldLinkNest RX2 36 "DoorIsHeld$Told" "walkers" "I" "DoorIsHeld" ∈ zN := by decide +kernel
set_option maxRecDepth 100000 in
theorem zm_465 : Cond.methodLink RX2 49 yX2_bringStatement ∈ zB := zmk2 98 (by decide +kernel) rfl
set_option maxRecDepth 100000 in
theorem zm_466 : Cond.code yX2_bringStatement cX2_bringStatement 3 none ∈ zB := zmk2 101 rfl rfl
set_option maxRecDepth 100000 in
theorem zm_467 : Cond.instanceMethod yX2_bringStatement ∈ zB := zmk2 100 (by decide +kernel) rfl
set_option maxRecDepth 100000 in
theorem zm_468 : Cond.selects RX2 yX2_bringStatement yX2_bringStatement ∈ zB := zmk0 11 (by decide +kernel) rfl
set_option maxRecDepth 100000 in
theorem zm_469 : Cond.methodLink RX4 75 yX2_findFault ∈ zB := zmk1 196 (by decide +kernel) rfl
set_option maxRecDepth 100000 in
theorem zm_470 : Cond.code yX2_findFault cX2_findFault 7 (some FieldType.int) ∈ zB := zmk1 199 rfl rfl
set_option maxRecDepth 100000 in
theorem zm_471 : Cond.instanceMethod yX2_findFault ∈ zB := zmk1 197 (by decide +kernel) rfl
set_option maxRecDepth 100000 in
theorem zm_472 : Cond.selects RX2 yX2_findFault yX2_findFault ∈ zB := zmk1 198 (by decide +kernel) rfl
set_option maxRecDepth 100000 in
theorem zm_473 : Cond.methodLink RX4 79 yX2_bringInto ∈ zB := zmk2 94 (by decide +kernel) rfl
set_option maxRecDepth 100000 in
theorem zm_474 : Cond.code yX2_bringInto cX2_bringInto 4 (some FieldType.int) ∈ zB := zmk2 97 rfl rfl
set_option maxRecDepth 100000 in
theorem zm_475 : Cond.instanceMethod yX2_bringInto ∈ zB := zmk2 95 (by decide +kernel) rfl
set_option maxRecDepth 100000 in
theorem zm_476 : Cond.selects RX2 yX2_bringInto yX2_bringInto ∈ zB := zmk2 96 (by decide +kernel) rfl
set_option maxRecDepth 100000 in
theorem zm_477 : Cond.fieldLink RX5 183 "DoorIsHeldModel" "LEAST_SET" "[I" ∈ zB := zmk4 142 (by decide +kernel) rfl
set_option maxRecDepth 100000 in
theorem zm_478 : Cond.fieldLink RX5 186 "DoorIsHeldModel" "MOST_SET" "[I" ∈ zB := zmk4 144 (by decide +kernel) rfl
abbrev rm_X2_readKind : Room := { frames := 4, cells := 0, slots := 0, locals := 91 }
abbrev w_X2_readKind : List Cond := Cond.code yX2_readKind cX2_readKind 2 none :: zB
abbrev rm_X2_readStatement : Room := { frames := 5, cells := 0, slots := 0, locals := 112 }
abbrev w_X2_readStatement : List Cond := Cond.code yX2_readStatement cX2_readStatement 2 (some FieldType.int) :: zB
abbrev rm_X2_findFault : Room := { frames := 6, cells := 0, slots := 0, locals := 133 }
abbrev w_X2_findFault : List Cond := Cond.code yX2_findFault cX2_findFault 7 (some FieldType.int) :: zB
abbrev rm_X2_bringInto : Room := { frames := 6, cells := 0, slots := 0, locals := 133 }
abbrev w_X2_bringInto : List Cond := Cond.code yX2_bringInto cX2_bringInto 4 (some FieldType.int) :: zB
abbrev rm_X4_way : Room := { frames := 7, cells := 0, slots := 0, locals := 159 }
abbrev w_X4_way : List Cond := Cond.code yX4_way cX4_way 2 (some FieldType.int) :: zB
abbrev rm_X5_set : Room := { frames := 1, cells := 0, slots := 0, locals := 22 }
abbrev w_X5_set : List Cond := Cond.code yX5_set cX5_set 5 (some FieldType.int) :: zB
theorem hd_X2_readSign : yX2_readSign.cls = RX2 ∧ yX2_readSign.cls ≠ "java/lang/invoke/MethodHandle" ∧ yX2_readSign.cls ≠ "java/lang/invoke/VarHandle" ∧ (parseMethodDescriptor yX2_readSign.desc).map (fun d => d.parameters.length) = some 1 := by decide +kernel
theorem hd_X2_readNumber : yX2_readNumber.cls = RX2 ∧ yX2_readNumber.cls ≠ "java/lang/invoke/MethodHandle" ∧ yX2_readNumber.cls ≠ "java/lang/invoke/VarHandle" ∧ (parseMethodDescriptor yX2_readNumber.desc).map (fun d => d.parameters.length) = some 1 := by decide +kernel
theorem hd_X2_readKind : yX2_readKind.cls = RX2 ∧ yX2_readKind.cls ≠ "java/lang/invoke/MethodHandle" ∧ yX2_readKind.cls ≠ "java/lang/invoke/VarHandle" ∧ (parseMethodDescriptor yX2_readKind.desc).map (fun d => d.parameters.length) = some 0 := by decide +kernel
theorem hd_X2_readStatement : yX2_readStatement.cls = RX2 ∧ yX2_readStatement.cls ≠ "java/lang/invoke/MethodHandle" ∧ yX2_readStatement.cls ≠ "java/lang/invoke/VarHandle" ∧ (parseMethodDescriptor yX2_readStatement.desc).map (fun d => d.parameters.length) = some 0 := by decide +kernel
theorem hd_X2_isAsItMustBe : yX2_isAsItMustBe.cls = RX2 ∧ yX2_isAsItMustBe.cls ≠ "java/lang/invoke/MethodHandle" ∧ yX2_isAsItMustBe.cls ≠ "java/lang/invoke/VarHandle" ∧ (parseMethodDescriptor yX2_isAsItMustBe.desc).map (fun d => d.parameters.length) = some 2 := by decide +kernel
theorem hd_X2_begin : yX2_begin.cls = RX2 ∧ yX2_begin.cls ≠ "java/lang/invoke/MethodHandle" ∧ yX2_begin.cls ≠ "java/lang/invoke/VarHandle" ∧ (parseMethodDescriptor yX2_begin.desc).map (fun d => d.parameters.length) = some 0 := by decide +kernel
theorem hd_X2_bringStatement : yX2_bringStatement.cls = RX2 ∧ yX2_bringStatement.cls ≠ "java/lang/invoke/MethodHandle" ∧ yX2_bringStatement.cls ≠ "java/lang/invoke/VarHandle" ∧ (parseMethodDescriptor yX2_bringStatement.desc).map (fun d => d.parameters.length) = some 2 := by decide +kernel
theorem hd_X2_findFault : yX2_findFault.cls = RX2 ∧ yX2_findFault.cls ≠ "java/lang/invoke/MethodHandle" ∧ yX2_findFault.cls ≠ "java/lang/invoke/VarHandle" ∧ (parseMethodDescriptor yX2_findFault.desc).map (fun d => d.parameters.length) = some 1 := by decide +kernel
theorem hd_X2_bringInto : yX2_bringInto.cls = RX2 ∧ yX2_bringInto.cls ≠ "java/lang/invoke/MethodHandle" ∧ yX2_bringInto.cls ≠ "java/lang/invoke/VarHandle" ∧ (parseMethodDescriptor yX2_bringInto.desc).map (fun d => d.parameters.length) = some 1 := by decide +kernel
def wp_J_ixI (c : Int32) (Q : Int32 → Prop) : Prop := Q (zIx c)
theorem c_J_ixI {l : Launch} {a v : Nat} {ch : Int32} {Q : Int32 → Prop} (h : wp_J_ixI ch Q) : Met l yJ0_indexOf_0f7a4 wj_ixI rmj_ixI (va_Pc [.ref a, .int ch] (zJ a v)) (vp_Si Q) 0 0 (fun _ => False) := cj_ixI h
theorem zSa_recv {a v : Nat} {A : Nat → Prop} {s : State} {H : Heap} (h : zSa a v A s H) : ∃ cell : Cell, H[a]? = some cell ∧ cell.vm.isStatics = false ∧ s.vm.findClass "java/lang/String" = some cell.cls := by
  obtain ⟨cell, h1, h2, h3, -⟩ := h.1
  exact ⟨cell, h1, h2, h3⟩
def wpb_X2_readKind_32  (Q : zT → Prop) (x1 : Int32) (t1 : Int32) (S : zT) : Prop := (wp_X2_take t1 S (fun (S_32 : zT) => (wp_X4_put 7 (0 : Int32) x1 (S_32 4) (fun (gf0_41 : Nat → Int32) => (∀ S_41 : zT, S_41 = (va_up S_32 4 gf0_41) → (Q S_41))))))
def wpb_X2_readKind_21  (Q : zT → Prop) (t0 : Int32) (S : zT) : Prop := ((t0 < 0 → (wpb_X2_readKind_32 Q t0 (0 : Int32) S)) ∧ (¬ t0 < 0 → (wpb_X2_readKind_32 Q t0 (1 : Int32) S)))
def wp_X2_readKind (S : zT) (Q : zT → Prop) : Prop := (wp_X2_here S (fun r1 : Int32 => ((0 ≤ r1 → (wp_X2_here S (fun r14 : Int32 => (wp_J_ixI ((r14.toUInt32 % 65536).toInt32) (fun r18 : Int32 => (wpb_X2_readKind_21 Q r18 S)))))) ∧ (¬ 0 ≤ r1 → (wpb_X2_readKind_21 Q (-1 : Int32) S)))))
def wpb_X2_readStatement_134  (Q : Int32 → zT → Prop) (x1 : Int32) (S : zT) : Prop := (wp_X2_readSign (59 : Int32) S (fun (S_137 : zT) => (Q x1 S_137)))
def wp_X2_readStatement (S : zT) (Q : Int32 → zT → Prop) : Prop := (wp_X2_here S (fun r1 : Int32 => ((r1 = (99 : Int32) → (∀ S_66 : zT, S_66 = (va_up S 2 (fun _ => ((S 2 0) + (1 : Int32)))) → (wp_X2_readDigits (0 : Int32) (0 : Int32) S_66 (fun (S_72 : zT) => (wp_X2_readNumber (1 : Int32) S_72 (fun (S_77 : zT) => (wpb_X2_readStatement_134 Q r1 S_77))))))) ∧ (¬ r1 = (99 : Int32) → ((r1 = (100 : Int32) → (∀ S_47 : zT, S_47 = (va_up S 2 (fun _ => ((S 2 0) + (1 : Int32)))) → (wp_X2_readDigits (0 : Int32) (2 : Int32) S_47 (fun (S_53 : zT) => (wpb_X2_readStatement_134 Q r1 S_53))))) ∧ (¬ r1 = (100 : Int32) → ((r1 = (119 : Int32) → (∀ S_90 : zT, S_90 = (va_up S 2 (fun _ => ((S 2 0) + (1 : Int32)))) → (wp_X2_readKind S_90 (fun (S_94 : zT) => (wp_X2_readNumber (1 : Int32) S_94 (fun (S_99 : zT) => (wp_X2_readSign (44 : Int32) S_99 (fun (S_105 : zT) => (wp_X2_readNumber (2 : Int32) S_105 (fun (S_110 : zT) => (wp_X2_readSign (44 : Int32) S_110 (fun (S_116 : zT) => (wp_X2_readDigits (3 : Int32) (6 : Int32) S_116 (fun (S_123 : zT) => (wpb_X2_readStatement_134 Q r1 S_123))))))))))))))) ∧ (¬ r1 = (119 : Int32) → (∀ S_131 : zT, S_131 = (va_up S 3 (fun _ => (1 : Int32))) → (wpb_X2_readStatement_134 Q r1 S_131))))))))))
def wpb_X2_findFault_95 (So1 : zT) (Q : Int32 → zT → Prop) (x3 : Int32) (S : zT) : Prop := (((S 3 0) = 0 → ((0 ≤ x3 → (Q ((-2000 : Int32) - x3) S)) ∧ (¬ 0 ≤ x3 → (Q (0 : Int32) S)))) ∧ (¬ (S 3 0) = 0 → (Q ((-1000 : Int32) - (S 2 0)) S)))
def wpb_X2_findFault_87 (So1 : zT) (Q : Int32 → zT → Prop) (K15 : Int32 → Int32 → Int32 → zT → Prop) (x3 : Int32) (x4 : Int32) (t0 : Int32) (t1 : Int32) (S : zT) : Prop := (∀ y88 : Int32, y88 = (t0 + t1) → (∀ y89 : Int32, y89 = (x4 + (1 : Int32)) → (K15 y88 x3 y89 S)))
def wpb_X2_findFault_74 (So1 : zT) (Q : Int32 → zT → Prop) (K15 : Int32 → Int32 → Int32 → zT → Prop) (x2 : Int32) (x3 : Int32) (x4 : Int32) (x6 : Int32) (S : zT) : Prop := ((x6 = (119 : Int32) → (wpb_X2_findFault_87 So1 Q K15 x3 x4 x2 (1 : Int32) S)) ∧ (¬ x6 = (119 : Int32) → (wpb_X2_findFault_87 So1 Q K15 x3 x4 x2 (0 : Int32) S)))
def wpb_X2_findFault_45 (So1 : zT) (Q : Int32 → zT → Prop) (K15 : Int32 → Int32 → Int32 → zT → Prop) (x2 : Int32) (x3 : Int32) (x4 : Int32) (S : zT) : Prop := (∀ y49 : Int32, y49 = (S 2 0) → (wp_X2_readStatement S (fun (r52 : Int32) (S_52 : zT) => ((0 ≤ x3 → (wpb_X2_findFault_74 So1 Q K15 x2 x3 x4 r52 S_52)) ∧ (¬ 0 ≤ x3 → (wp_X2_isAsItMustBe S_52 r52 x2 (fun r65 : Int32 => ((r65 = 0 → (wpb_X2_findFault_74 So1 Q K15 x2 y49 x4 r52 S_52)) ∧ (¬ r65 = 0 → (wpb_X2_findFault_74 So1 Q K15 x2 x3 x4 r52 S_52))))))))))
def wpl_X2_findFault_15 (So1 : zT) (Q : Int32 → zT → Prop) : Nat → Int32 → Int32 → Int32 → zT → Prop := fun nn => Nat.rec (motive := fun _ => Int32 → Int32 → Int32 → zT → Prop) (fun _ _ _ _ => False) (fun _ K15 x2 x3 x4 S => (((80 : Int32) ≤ x4 → (wpb_X2_findFault_95 So1 Q x3 S)) ∧ (¬ (80 : Int32) ≤ x4 → (((S 3 0) = 0 → ((x4 = 0 → (wpb_X2_findFault_45 So1 Q K15 x2 x3 x4 S)) ∧ (¬ x4 = 0 → (((S 1 0) ≤ (S 2 0) → (wpb_X2_findFault_95 So1 Q x3 S)) ∧ (¬ (S 1 0) ≤ (S 2 0) → (wpb_X2_findFault_45 So1 Q K15 x2 x3 x4 S)))))) ∧ (¬ (S 3 0) = 0 → (wpb_X2_findFault_95 So1 Q x3 S)))))) nn
def wp_X2_findFault (So1 : zT) (S : zT) (Q : Int32 → zT → Prop) : Prop := (wp_X2_begin S (fun (S_1 : zT) => (∀ y8 : Int32, y8 = (So1 2 0) → (∃ nn : Nat, wpl_X2_findFault_15 So1 Q nn y8 (-9 : Int32) (0 : Int32) S_1))))
def wpl_X2_bringInto_8  (Q : Int32 → zT → zT → Prop) : Nat → Int32 → Int32 → zT → zT → Prop := fun nn => Nat.rec (motive := fun _ => Int32 → Int32 → zT → zT → Prop) (fun _ _ _ _ => False) (fun _ K8 x2 x3 S So1 => (((80 : Int32) ≤ x3 → (Q x2 S So1)) ∧ (¬ (80 : Int32) ≤ x3 → (((S 3 0) = 0 → (((S 1 0) ≤ (S 2 0) → (Q x2 S So1)) ∧ (¬ (S 1 0) ≤ (S 2 0) → (wp_X2_readStatement S (fun (r35 : Int32) (S_35 : zT) => (wp_X2_bringStatement S_35 r35 So1 (fun (So1_38 : zT) => (∀ y41 : Int32, y41 = (x2 + (1 : Int32)) → (∀ y44 : Int32, y44 = (x3 + (1 : Int32)) → (K8 y41 y44 S_35 So1_38)))))))))) ∧ (¬ (S 3 0) = 0 → (Q x2 S So1)))))) nn
def wp_X2_bringInto (S : zT) (So1 : zT) (Q : Int32 → zT → zT → Prop) : Prop := (wp_X2_begin S (fun (S_1 : zT) => (∃ nn : Nat, wpl_X2_bringInto_8 Q nn (0 : Int32) (0 : Int32) S_1 So1)))
def wpb_X4_way_28 (S : zT) (Q : Int32 → zT → zT → Prop) (x1 : Int32) (Sn : zT) (Sl : zT) : Prop := (∀ Sl_33 : zT, Sl_33 = (va_up Sl 1 (fun _ => (0 : Int32))) → (Q x1 Sn Sl_33))
def wp_X4_way (S : zT) (Sn : zT) (Sl : zT) (Q : Int32 → zT → zT → Prop) : Prop := (wp_X2_findFault Sn Sl (fun (r8 : Int32) (Sl_8 : zT) => ((r8 = 0 → (wp_X2_bringInto Sl_8 Sn (fun (r24 : Int32) (Sl_24 : zT) (Sn_24 : zT) => (wpb_X4_way_28 S Q r24 Sn_24 Sl_24)))) ∧ (¬ r8 = 0 → (wpb_X4_way_28 S Q r8 Sn Sl_8)))))
def wp_X5_set (i1 : Int32) (i2 : Int32) (S : zT) (Q : Int32 → zT → Prop) : Prop := (wp_X5_isIn i1 (0 : Int32) (3 : Int32) (fun r3 : Int32 => ((r3 = 0 → (wp_X5_no (-2 : Int32) S (fun (r12 : Int32) (S_12 : zT) => (Q r12 S_12)))) ∧ (¬ r3 = 0 → (vp_in i1 4 ∧ (vp_in i1 4 ∧ (wp_X5_bound i2 (zLs i1.toNatClampNeg) (zMo i1.toNatClampNeg) (fun r27 : Int32 => ((r27 = 0 → (vp_in i1 5 ∧ (∀ y47 : Int32, y47 = (S 8 i1.toNatClampNeg) → (vp_in i1 5 ∧ (∀ S_55 : zT, S_55 = (va_up S 8 (upd (S 8) i1.toNatClampNeg i2)) → (Q y47 S_55)))))) ∧ (¬ r27 = 0 → (wp_X5_no r27 S (fun (r37 : Int32) (S_37 : zT) => (Q r37 S_37)))))))))))))
set_option maxHeartbeats 4000000 in
set_option maxRecDepth 100000 in
theorem c_X2_readKind (l : Launch) (D : va_G) (cy : ClassId) (ah : Nat → Nat) (sz : Nat) (S : zT) {Q : zT → Prop} (h : wp_X2_readKind S Q) : Met l yX2_readKind w_X2_readKind rm_X2_readKind (va_Pc [.ref (ah 99)] (zMC D cy (bX2 ah cy S) sz)) (va_Qv (S := zT) (fun (u : zT) => Q u) (fun u t => va_P D zCl ((fun (u : zT) => (bX2 ah cy u)) u) t.heap) (va_A (bX2 ah cy S) sz)) 0 0 (va_A (bX2 ah cy S) sz) := by
  refine zOf_vc (by decide) (Nat.le_of_ble_eq_true rfl) ?_
  intro p e s m below meth c ls A H locs hx hb hr hml hown htB hlocks hK hN hC hP hD hS hA hl
  replace hl : lv_has ls 2 [(0, .ref (ah 99))] := hl
  have L32 : ∀ (x1 : Int32) (t1 : Int32) (S : zT), wpb_X2_readKind_32 Q x1 t1 S → ∀ (H : Heap) (locs : List Loc), va_P D zCl (bX2 ah cy S) H → va_D A (bX2 ah cy S) → va_S A s.heap H locs → ∀ ls : Array Slot, lv_has ls 2 [(0, .ref (ah 99)), (1, .int x1)] → W p l e rm_X2_readKind s m ([.ref (ah 99)] : List Value).toArray below meth c H locs 0 0 (MQ below (va_Qv (S := zT) (fun (u : zT) => Q u) (fun u t => va_P D zCl ((fun (u : zT) => (bX2 ah cy u)) u) t.heap) A) ([.ref (ah 99)] : List Value).toArray s 0 0 A) (F0 m 32 ls [.int t1, .ref (ah 99)]) := by
    intro x1 t1 S h H locs hP hD hS ls hl
    refine zc_vf (ws' := fun u => (bX2 ah cy u)) (va_runV (As := [.int t1]) (rest := []) ⟨hx, hb, hml, hown, htB⟩ (c_X2_take l D cy ah H.size t1 S h) (cwV 1 htB (zgV zm_107 zm_109 zm_110 zm_99 zm_108) rfl rfl rfl hd_X2_take ⟨Nat.le_of_ble_eq_true rfl, Nat.le_of_ble_eq_true rfl⟩) ⟨zM_blind, va_recv hK hP (ci := 2) (q0 := 0) rfl rfl, zM_pre hP hK hN hD⟩ rfl rfl hl.1 rfl (lv_room (Nat.le_of_ble_eq_true rfl)) dX2_readKind_32 ⟨Nat.zero_le _, Nat.zero_le _⟩) hS hA hP hD (fun u => rfl) (fun u => rfl) (fun u H locs h hP hD hS => ?_)
    obtain ⟨S_32, eu⟩ : ∃ z, z = u := ⟨_, rfl⟩
    subst eu
    replace hP : va_P D zCl (bX2 ah cy S_32) H := hP
    replace hD : va_D A (bX2 ah cy S_32) := hD
    refine lv_aload_n hx hb dX2_readKind_35 rfl (lv_at hl 0 rfl) ?_
    refine va_get (D := D) (ci := 2) (v := .ref (ah 4)) (C := RX2) (T := TX2) (N := 5) hx hb htB ziX2 hown hK hP 0 rfl rfl 4 (by decide) (htB _ zm_102) (fun _ h9 => h9) rfl dX2_readKind_36 ?_
    refine lv_iconst (v := (0 : Int32)) hx hb dX2_readKind_39 (by decide) ?_
    refine lv_iload_n hx hb dX2_readKind_40 rfl (lv_at hl 1 rfl) ?_
    have hPc : va_P D zCl [((ah 4), .inl (cy, 7, .inl (S_32 4)))] H := hP.sub [2] rfl
    have hDc : va_D A [((ah 4), .inl (cy, 7, .inl (S_32 4)))] := hD.sub [2] (by decide) rfl
    refine zc_v (ws' := fun u => (bX2 ah cy (va_up S_32 4 u))) (va_runSN (As := [.ref (ah 4), .int (0 : Int32), .int x1]) (rest := []) ⟨hx, hb, hml, hown, htB⟩ (c_X4_put l D cy (ah 4) H.size 7 (0 : Int32) x1 (S_32 4) h) ⟨va_cnB 3 htB (zgN zm_3) rfl rfl rfl (hN _ zm_94) (htB _ zm_4) hd_X4_put.2 ⟨Nat.le_of_ble_eq_true rfl, Nat.le_of_ble_eq_true rfl⟩, htB _ zm_5, trivial⟩ ⟨zM_blind, zM_pre hPc hK hN hDc⟩ rfl rfl hl.1 rfl (lv_room (Nat.le_of_ble_eq_true rfl)) dX2_readKind_41 ⟨Nat.zero_le _, Nat.zero_le _⟩) hS hA hP hD [2] [0, 1] [0, 1, 2] (by decide) rfl (by decide) (by decide) rfl (fun u => rfl) (fun u => rfl) (fun u => rfl) (fun u H locs h hP hD hS => ?_)
    obtain ⟨gf0_41, eu⟩ : ∃ z, z = u := ⟨_, rfl⟩
    subst eu
    replace hP : va_P D zCl (bX2 ah cy (va_up S_32 4 gf0_41)) H := hP
    replace hD : va_D A (bX2 ah cy (va_up S_32 4 gf0_41)) := hD
    obtain ⟨S_41, eS_41⟩ : ∃ z : zT, z = (va_up S_32 4 gf0_41) := ⟨_, rfl⟩
    replace h := h S_41 eS_41
    replace hP : va_P D zCl (bX2 ah cy S_41) H := by rw [eS_41]; exact hP
    replace hD : va_D A (bX2 ah cy S_41) := by rw [eS_41]; exact hD
    exact W.vret hx hb hr (fun t ht hW => ⟨⟨S_41, rfl, h, zP_h ht hP⟩, hS.F ht⟩) hS.2.2 dX2_readKind_44
  have L21 : ∀ (t0 : Int32) (S : zT), wpb_X2_readKind_21 Q t0 S → ∀ (H : Heap) (locs : List Loc), va_P D zCl (bX2 ah cy S) H → va_D A (bX2 ah cy S) → va_S A s.heap H locs → ∀ ls : Array Slot, lv_has ls 2 [(0, .ref (ah 99))] → W p l e rm_X2_readKind s m ([.ref (ah 99)] : List Value).toArray below meth c H locs 0 0 (MQ below (va_Qv (S := zT) (fun (u : zT) => Q u) (fun u t => va_P D zCl ((fun (u : zT) => (bX2 ah cy u)) u) t.heap) A) ([.ref (ah 99)] : List Value).toArray s 0 0 A) (F0 m 21 ls [.int t0]) := by
    intro t0 S h H locs hP hD hS ls hl
    refine lv_istore_n (lv' := [(1, .int t0), (0, .ref (ah 99))]) hx hb dX2_readKind_21 rfl hl (by decide) rfl (fun ls hl => ?_)
    refine lv_aload_n hx hb dX2_readKind_22 rfl (lv_at hl 1 rfl) ?_
    refine lv_iload_n hx hb dX2_readKind_23 rfl (lv_at hl 0 rfl) ?_
    refine lv_if_lt (tgt := 31) hx hb dX2_readKind_24 (by decide) (fun c24 => ?_) (fun c24 => ?_)
    · replace h := And.left h c24
      refine lv_iconst (v := (0 : Int32)) hx hb dX2_readKind_31 (by decide) ?_
      exact L32 t0 (0 : Int32) S h H locs hP hD hS ls (lv_sub hl [1, 0] rfl)
    · replace h := And.right h c24
      refine lv_iconst (v := (1 : Int32)) hx hb dX2_readKind_27 (by decide) ?_
      refine lv_goto (tgt := 32) hx hb dX2_readKind_28 (by decide) ?_
      exact L32 t0 (1 : Int32) S h H locs hP hD hS ls (lv_sub hl [1, 0] rfl)
  refine lv_aload_n hx hb dX2_readKind_0 rfl (lv_at hl 0 rfl) ?_
  refine zc_r (va_runV (As := []) (rest := []) ⟨hx, hb, hml, hown, htB⟩ (c_X2_here l D cy ah S h) (cwV 0 htB (zgV zm_97 zm_100 zm_101 zm_99 zm_98) rfl rfl rfl hd_X2_here ⟨Nat.le_of_ble_eq_true rfl, Nat.le_of_ble_eq_true rfl⟩) ⟨zR_blind, va_recv hK hP (ci := 2) (q0 := 0) rfl rfl, zR_pre hP hK hN⟩ rfl rfl hl.1 rfl (lv_room (Nat.le_of_ble_eq_true rfl)) dX2_readKind_1 ⟨Nat.zero_le _, Nat.zero_le _⟩) (fun r1 h => ?_)
  refine lv_if_ge (tgt := 11) hx hb dX2_readKind_4 (by decide) (fun c4 => ?_) (fun c4 => ?_)
  · replace h := And.left h c4
    obtain ⟨⟨qa, qv, hR, hZ⟩, -⟩ := id hC
    refine va_ldcS hx hb hown hR dX2_readKind_11 ?_
    refine lv_aload_n hx hb dX2_readKind_13 rfl (lv_at hl 0 rfl) ?_
    refine zc_r (va_runV (As := []) (rest := [.ref qa]) ⟨hx, hb, hml, hown, htB⟩ (c_X2_here l D cy ah S h) (cwV 0 htB (zgV zm_97 zm_100 zm_101 zm_99 zm_98) rfl rfl rfl hd_X2_here ⟨Nat.le_of_ble_eq_true rfl, Nat.le_of_ble_eq_true rfl⟩) ⟨zR_blind, va_recv hK hP (ci := 2) (q0 := 0) rfl rfl, zR_pre hP hK hN⟩ rfl rfl hl.1 rfl (lv_room (Nat.le_of_ble_eq_true rfl)) dX2_readKind_14 ⟨Nat.zero_le _, Nat.zero_le _⟩) (fun r14 h => ?_)
    refine lv_i2c (v := (r14.toUInt32 % 65536).toInt32) hx hb dX2_readKind_17 rfl ?_
    refine zc_r (va_runV (As := [.int ((r14.toUInt32 % 65536).toInt32)]) (rest := []) ⟨hx, hb, hml, hown, htB⟩ (c_J_ixI (a := qa) (v := qv) h) (cwV 1 htB (zgV zj_l_ixI zj_i_ixI zj_s_ixI zj_iS zj_c_ixI) rfl rfl rfl hdj_ixI ⟨Nat.le_of_ble_eq_true rfl, Nat.le_of_ble_eq_true rfl⟩) ⟨zJ_blind, zSa_recv (hZ.kept hS.2.1), zJ_pre (hZ.kept hS.2.1)⟩ rfl rfl hl.1 rfl (lv_room (Nat.le_of_ble_eq_true rfl)) dX2_readKind_18 ⟨Nat.zero_le _, Nat.zero_le _⟩) (fun r18 h => ?_)
    exact L21 r18 S h H locs hP hD hS ls (lv_sub hl [0] rfl)
  · replace h := And.right h c4
    refine lv_iconst (v := (-1 : Int32)) hx hb dX2_readKind_7 (by decide) ?_
    refine lv_goto (tgt := 21) hx hb dX2_readKind_8 (by decide) ?_
    exact L21 (-1 : Int32) S h H locs hP hD hS ls (lv_sub hl [0] rfl)
set_option maxHeartbeats 4000000 in
set_option maxRecDepth 100000 in
theorem c_X2_readStatement (l : Launch) (D : va_G) (cy : ClassId) (ah : Nat → Nat) (sz : Nat) (S : zT) {Q : Int32 → zT → Prop} (h : wp_X2_readStatement S Q) : Met l yX2_readStatement w_X2_readStatement rm_X2_readStatement (va_Pc [.ref (ah 99)] (zMC D cy (bX2 ah cy S) sz)) (va_Qi (S := zT) (fun (r : Int32) (u : zT) => Q r u) (fun u t => va_P D zCl ((fun (u : zT) => (bX2 ah cy u)) u) t.heap) (va_A (bX2 ah cy S) sz)) 0 0 (va_A (bX2 ah cy S) sz) := by
  refine zOf_ic (by decide) (Nat.le_of_ble_eq_true rfl) ?_
  intro p e s m below meth c ls A H locs hx hb hr hml hown htB hlocks hK hN hC hP hD hS hA hl
  replace hl : lv_has ls 2 [(0, .ref (ah 99))] := hl
  have L134 : ∀ (x1 : Int32) (S : zT), wpb_X2_readStatement_134 Q x1 S → ∀ (H : Heap) (locs : List Loc), va_P D zCl (bX2 ah cy S) H → va_D A (bX2 ah cy S) → va_S A s.heap H locs → ∀ ls : Array Slot, lv_has ls 2 [(0, .ref (ah 99)), (1, .int x1)] → W p l e rm_X2_readStatement s m ([.ref (ah 99)] : List Value).toArray below meth c H locs 0 0 (MQ below (va_Qi (S := zT) (fun (r : Int32) (u : zT) => Q r u) (fun u t => va_P D zCl ((fun (u : zT) => (bX2 ah cy u)) u) t.heap) A) ([.ref (ah 99)] : List Value).toArray s 0 0 A) (F0 m 134 ls []) := by
    intro x1 S h H locs hP hD hS ls hl
    refine lv_aload_n hx hb dX2_readStatement_134 rfl (lv_at hl 0 rfl) ?_
    refine lv_bipush (v := (59 : Int32)) hx hb dX2_readStatement_135 (by decide) ?_
    refine zc_vf (ws' := fun u => (bX2 ah cy u)) (va_runV (As := [.int (59 : Int32)]) (rest := []) ⟨hx, hb, hml, hown, htB⟩ (c_X2_readSign l D cy ah H.size (59 : Int32) S h) (cwV 1 htB (zgV zm_440 zm_442 zm_443 zm_99 zm_441) rfl rfl rfl hd_X2_readSign ⟨Nat.le_of_ble_eq_true rfl, Nat.le_of_ble_eq_true rfl⟩) ⟨zM_blind, va_recv hK hP (ci := 2) (q0 := 0) rfl rfl, zM_pre hP hK hN hD⟩ rfl rfl hl.1 rfl (lv_room (Nat.le_of_ble_eq_true rfl)) dX2_readStatement_137 ⟨Nat.zero_le _, Nat.zero_le _⟩) hS hA hP hD (fun u => rfl) (fun u => rfl) (fun u H locs h hP hD hS => ?_)
    obtain ⟨S_137, eu⟩ : ∃ z, z = u := ⟨_, rfl⟩
    subst eu
    replace hP : va_P D zCl (bX2 ah cy S_137) H := hP
    replace hD : va_D A (bX2 ah cy S_137) := hD
    refine lv_iload_n hx hb dX2_readStatement_140 rfl (lv_at hl 1 rfl) ?_
    exact W.iret (v := x1) hx hb hr (fun t ht hW => ⟨⟨_, S_137, rfl, h, zP_h ht hP⟩, hS.F ht⟩) hS.2.2 dX2_readStatement_141
  refine lv_aload_n hx hb dX2_readStatement_0 rfl (lv_at hl 0 rfl) ?_
  refine zc_r (va_runV (As := []) (rest := []) ⟨hx, hb, hml, hown, htB⟩ (c_X2_here l D cy ah S h) (cwV 0 htB (zgV zm_97 zm_100 zm_101 zm_99 zm_98) rfl rfl rfl hd_X2_here ⟨Nat.le_of_ble_eq_true rfl, Nat.le_of_ble_eq_true rfl⟩) ⟨zR_blind, va_recv hK hP (ci := 2) (q0 := 0) rfl rfl, zR_pre hP hK hN⟩ rfl rfl hl.1 rfl (lv_room (Nat.le_of_ble_eq_true rfl)) dX2_readStatement_1 ⟨Nat.zero_le _, Nat.zero_le _⟩) (fun r1 h => ?_)
  refine lv_istore_n (lv' := [(1, .int r1), (0, .ref (ah 99))]) hx hb dX2_readStatement_4 rfl hl (by decide) rfl (fun ls hl => ?_)
  refine lv_iload_n hx hb dX2_readStatement_5 rfl (lv_at hl 0 rfl) ?_
  by_cases c6_0 : r1 = (99 : Int32)
  · replace h := And.left h c6_0
    refine lv_lookup (off := 53) (tgt := 59) hx hb dX2_readStatement_6 (by decide) (by rw [c6_0]; rfl) (by decide) ?_
    refine lv_aload_n hx hb dX2_readStatement_59 rfl (lv_at hl 1 rfl) ?_
    refine lv_dup hx hb dX2_readStatement_60 rfl ?_
    refine va_get (D := D) (ci := 2) (v := .int (S 2 0)) (C := RX2) (T := TX2) (N := 5) hx hb htB ziX2 hown hK hP 0 rfl rfl 2 (by decide) (htB _ zm_95) (fun _ h9 => h9) rfl dX2_readStatement_61 ?_
    refine lv_iconst (v := (1 : Int32)) hx hb dX2_readStatement_64 (by decide) ?_
    refine lv_iadd hx hb dX2_readStatement_65 ?_
    refine va_put (D := D) (ci := 2) (v := .int ((S 2 0) + (1 : Int32))) (ty := .int) (C := RX2) (T := TX2) (N := 5) hx hb htB ziX2 tyX2 tyX2_ok nmX2 hown hK hP hD hS 0 rfl rfl 2 (by decide) (htB _ zm_95) (fun _ h9 => h9) rfl (tyX2_ok 2 (by decide)) rfl rfl (Nat.le_of_ble_eq_true rfl) dX2_readStatement_66 (fun H locs hP hD hS => ?_)
    obtain ⟨S_66, eS_66⟩ : ∃ z : zT, z = (va_up S 2 (fun _ => ((S 2 0) + (1 : Int32)))) := ⟨_, rfl⟩
    replace h := h S_66 eS_66
    replace hP : va_P D zCl (bX2 ah cy S_66) H := by rw [eS_66]; exact hP
    replace hD : va_D A (bX2 ah cy S_66) := by rw [eS_66]; exact hD
    refine lv_aload_n hx hb dX2_readStatement_69 rfl (lv_at hl 1 rfl) ?_
    refine lv_iconst (v := (0 : Int32)) hx hb dX2_readStatement_70 (by decide) ?_
    refine lv_iconst (v := (0 : Int32)) hx hb dX2_readStatement_71 (by decide) ?_
    refine zc_vf (ws' := fun u => (bX2 ah cy u)) (va_runV (As := [.int (0 : Int32), .int (0 : Int32)]) (rest := []) ⟨hx, hb, hml, hown, htB⟩ (c_X2_readDigits l D cy ah H.size (0 : Int32) (0 : Int32) S_66 h) (cwV 2 htB (zgV zm_111 zm_113 zm_114 zm_99 zm_112) rfl rfl rfl hd_X2_readDigits ⟨Nat.le_of_ble_eq_true rfl, Nat.le_of_ble_eq_true rfl⟩) ⟨zM_blind, va_recv hK hP (ci := 2) (q0 := 0) rfl rfl, zM_pre hP hK hN hD⟩ rfl rfl hl.1 rfl (lv_room (Nat.le_of_ble_eq_true rfl)) dX2_readStatement_72 ⟨Nat.zero_le _, Nat.zero_le _⟩) hS hA hP hD (fun u => rfl) (fun u => rfl) (fun u H locs h hP hD hS => ?_)
    obtain ⟨S_72, eu⟩ : ∃ z, z = u := ⟨_, rfl⟩
    subst eu
    replace hP : va_P D zCl (bX2 ah cy S_72) H := hP
    replace hD : va_D A (bX2 ah cy S_72) := hD
    refine lv_aload_n hx hb dX2_readStatement_75 rfl (lv_at hl 1 rfl) ?_
    refine lv_iconst (v := (1 : Int32)) hx hb dX2_readStatement_76 (by decide) ?_
    refine zc_vf (ws' := fun u => (bX2 ah cy u)) (va_runV (As := [.int (1 : Int32)]) (rest := []) ⟨hx, hb, hml, hown, htB⟩ (c_X2_readNumber l D cy ah H.size (1 : Int32) S_72 h) (cwV 1 htB (zgV zm_444 zm_446 zm_447 zm_99 zm_445) rfl rfl rfl hd_X2_readNumber ⟨Nat.le_of_ble_eq_true rfl, Nat.le_of_ble_eq_true rfl⟩) ⟨zM_blind, va_recv hK hP (ci := 2) (q0 := 0) rfl rfl, zM_pre hP hK hN hD⟩ rfl rfl hl.1 rfl (lv_room (Nat.le_of_ble_eq_true rfl)) dX2_readStatement_77 ⟨Nat.zero_le _, Nat.zero_le _⟩) hS hA hP hD (fun u => rfl) (fun u => rfl) (fun u H locs h hP hD hS => ?_)
    obtain ⟨S_77, eu⟩ : ∃ z, z = u := ⟨_, rfl⟩
    subst eu
    replace hP : va_P D zCl (bX2 ah cy S_77) H := hP
    replace hD : va_D A (bX2 ah cy S_77) := hD
    refine lv_goto (tgt := 134) hx hb dX2_readStatement_80 (by decide) ?_
    exact L134 r1 S_77 h H locs hP hD hS ls (lv_sub hl [1, 0] rfl)
  · replace h := And.right h c6_0
    by_cases c6_1 : r1 = (100 : Int32)
    · replace h := And.left h c6_1
      refine lv_lookup (off := 34) (tgt := 40) hx hb dX2_readStatement_6 (by decide) (by rw [c6_1]; rfl) (by decide) ?_
      refine lv_aload_n hx hb dX2_readStatement_40 rfl (lv_at hl 1 rfl) ?_
      refine lv_dup hx hb dX2_readStatement_41 rfl ?_
      refine va_get (D := D) (ci := 2) (v := .int (S 2 0)) (C := RX2) (T := TX2) (N := 5) hx hb htB ziX2 hown hK hP 0 rfl rfl 2 (by decide) (htB _ zm_95) (fun _ h9 => h9) rfl dX2_readStatement_42 ?_
      refine lv_iconst (v := (1 : Int32)) hx hb dX2_readStatement_45 (by decide) ?_
      refine lv_iadd hx hb dX2_readStatement_46 ?_
      refine va_put (D := D) (ci := 2) (v := .int ((S 2 0) + (1 : Int32))) (ty := .int) (C := RX2) (T := TX2) (N := 5) hx hb htB ziX2 tyX2 tyX2_ok nmX2 hown hK hP hD hS 0 rfl rfl 2 (by decide) (htB _ zm_95) (fun _ h9 => h9) rfl (tyX2_ok 2 (by decide)) rfl rfl (Nat.le_of_ble_eq_true rfl) dX2_readStatement_47 (fun H locs hP hD hS => ?_)
      obtain ⟨S_47, eS_47⟩ : ∃ z : zT, z = (va_up S 2 (fun _ => ((S 2 0) + (1 : Int32)))) := ⟨_, rfl⟩
      replace h := h S_47 eS_47
      replace hP : va_P D zCl (bX2 ah cy S_47) H := by rw [eS_47]; exact hP
      replace hD : va_D A (bX2 ah cy S_47) := by rw [eS_47]; exact hD
      refine lv_aload_n hx hb dX2_readStatement_50 rfl (lv_at hl 1 rfl) ?_
      refine lv_iconst (v := (0 : Int32)) hx hb dX2_readStatement_51 (by decide) ?_
      refine lv_iconst (v := (2 : Int32)) hx hb dX2_readStatement_52 (by decide) ?_
      refine zc_vf (ws' := fun u => (bX2 ah cy u)) (va_runV (As := [.int (0 : Int32), .int (2 : Int32)]) (rest := []) ⟨hx, hb, hml, hown, htB⟩ (c_X2_readDigits l D cy ah H.size (0 : Int32) (2 : Int32) S_47 h) (cwV 2 htB (zgV zm_111 zm_113 zm_114 zm_99 zm_112) rfl rfl rfl hd_X2_readDigits ⟨Nat.le_of_ble_eq_true rfl, Nat.le_of_ble_eq_true rfl⟩) ⟨zM_blind, va_recv hK hP (ci := 2) (q0 := 0) rfl rfl, zM_pre hP hK hN hD⟩ rfl rfl hl.1 rfl (lv_room (Nat.le_of_ble_eq_true rfl)) dX2_readStatement_53 ⟨Nat.zero_le _, Nat.zero_le _⟩) hS hA hP hD (fun u => rfl) (fun u => rfl) (fun u H locs h hP hD hS => ?_)
      obtain ⟨S_53, eu⟩ : ∃ z, z = u := ⟨_, rfl⟩
      subst eu
      replace hP : va_P D zCl (bX2 ah cy S_53) H := hP
      replace hD : va_D A (bX2 ah cy S_53) := hD
      refine lv_goto (tgt := 134) hx hb dX2_readStatement_56 (by decide) ?_
      exact L134 r1 S_53 h H locs hP hD hS ls (lv_sub hl [1, 0] rfl)
    · replace h := And.right h c6_1
      by_cases c6_2 : r1 = (119 : Int32)
      · replace h := And.left h c6_2
        refine lv_lookup (off := 77) (tgt := 83) hx hb dX2_readStatement_6 (by decide) (by rw [c6_2]; rfl) (by decide) ?_
        refine lv_aload_n hx hb dX2_readStatement_83 rfl (lv_at hl 1 rfl) ?_
        refine lv_dup hx hb dX2_readStatement_84 rfl ?_
        refine va_get (D := D) (ci := 2) (v := .int (S 2 0)) (C := RX2) (T := TX2) (N := 5) hx hb htB ziX2 hown hK hP 0 rfl rfl 2 (by decide) (htB _ zm_95) (fun _ h9 => h9) rfl dX2_readStatement_85 ?_
        refine lv_iconst (v := (1 : Int32)) hx hb dX2_readStatement_88 (by decide) ?_
        refine lv_iadd hx hb dX2_readStatement_89 ?_
        refine va_put (D := D) (ci := 2) (v := .int ((S 2 0) + (1 : Int32))) (ty := .int) (C := RX2) (T := TX2) (N := 5) hx hb htB ziX2 tyX2 tyX2_ok nmX2 hown hK hP hD hS 0 rfl rfl 2 (by decide) (htB _ zm_95) (fun _ h9 => h9) rfl (tyX2_ok 2 (by decide)) rfl rfl (Nat.le_of_ble_eq_true rfl) dX2_readStatement_90 (fun H locs hP hD hS => ?_)
        obtain ⟨S_90, eS_90⟩ : ∃ z : zT, z = (va_up S 2 (fun _ => ((S 2 0) + (1 : Int32)))) := ⟨_, rfl⟩
        replace h := h S_90 eS_90
        replace hP : va_P D zCl (bX2 ah cy S_90) H := by rw [eS_90]; exact hP
        replace hD : va_D A (bX2 ah cy S_90) := by rw [eS_90]; exact hD
        refine lv_aload_n hx hb dX2_readStatement_93 rfl (lv_at hl 1 rfl) ?_
        refine zc_vf (ws' := fun u => (bX2 ah cy u)) (va_runV (As := []) (rest := []) ⟨hx, hb, hml, hown, htB⟩ (c_X2_readKind l D cy ah H.size S_90 h) (cwV 0 htB (zgV zm_448 zm_450 zm_451 zm_99 zm_449) rfl rfl rfl hd_X2_readKind ⟨Nat.le_of_ble_eq_true rfl, Nat.le_of_ble_eq_true rfl⟩) ⟨zMC_blind, va_recv hK hP (ci := 2) (q0 := 0) rfl rfl, zMC_pre hP hK hN hD hS hA hC⟩ rfl rfl hl.1 rfl (lv_room (Nat.le_of_ble_eq_true rfl)) dX2_readStatement_94 ⟨Nat.zero_le _, Nat.zero_le _⟩) hS hA hP hD (fun u => rfl) (fun u => rfl) (fun u H locs h hP hD hS => ?_)
        obtain ⟨S_94, eu⟩ : ∃ z, z = u := ⟨_, rfl⟩
        subst eu
        replace hP : va_P D zCl (bX2 ah cy S_94) H := hP
        replace hD : va_D A (bX2 ah cy S_94) := hD
        refine lv_aload_n hx hb dX2_readStatement_97 rfl (lv_at hl 1 rfl) ?_
        refine lv_iconst (v := (1 : Int32)) hx hb dX2_readStatement_98 (by decide) ?_
        refine zc_vf (ws' := fun u => (bX2 ah cy u)) (va_runV (As := [.int (1 : Int32)]) (rest := []) ⟨hx, hb, hml, hown, htB⟩ (c_X2_readNumber l D cy ah H.size (1 : Int32) S_94 h) (cwV 1 htB (zgV zm_444 zm_446 zm_447 zm_99 zm_445) rfl rfl rfl hd_X2_readNumber ⟨Nat.le_of_ble_eq_true rfl, Nat.le_of_ble_eq_true rfl⟩) ⟨zM_blind, va_recv hK hP (ci := 2) (q0 := 0) rfl rfl, zM_pre hP hK hN hD⟩ rfl rfl hl.1 rfl (lv_room (Nat.le_of_ble_eq_true rfl)) dX2_readStatement_99 ⟨Nat.zero_le _, Nat.zero_le _⟩) hS hA hP hD (fun u => rfl) (fun u => rfl) (fun u H locs h hP hD hS => ?_)
        obtain ⟨S_99, eu⟩ : ∃ z, z = u := ⟨_, rfl⟩
        subst eu
        replace hP : va_P D zCl (bX2 ah cy S_99) H := hP
        replace hD : va_D A (bX2 ah cy S_99) := hD
        refine lv_aload_n hx hb dX2_readStatement_102 rfl (lv_at hl 1 rfl) ?_
        refine lv_bipush (v := (44 : Int32)) hx hb dX2_readStatement_103 (by decide) ?_
        refine zc_vf (ws' := fun u => (bX2 ah cy u)) (va_runV (As := [.int (44 : Int32)]) (rest := []) ⟨hx, hb, hml, hown, htB⟩ (c_X2_readSign l D cy ah H.size (44 : Int32) S_99 h) (cwV 1 htB (zgV zm_440 zm_442 zm_443 zm_99 zm_441) rfl rfl rfl hd_X2_readSign ⟨Nat.le_of_ble_eq_true rfl, Nat.le_of_ble_eq_true rfl⟩) ⟨zM_blind, va_recv hK hP (ci := 2) (q0 := 0) rfl rfl, zM_pre hP hK hN hD⟩ rfl rfl hl.1 rfl (lv_room (Nat.le_of_ble_eq_true rfl)) dX2_readStatement_105 ⟨Nat.zero_le _, Nat.zero_le _⟩) hS hA hP hD (fun u => rfl) (fun u => rfl) (fun u H locs h hP hD hS => ?_)
        obtain ⟨S_105, eu⟩ : ∃ z, z = u := ⟨_, rfl⟩
        subst eu
        replace hP : va_P D zCl (bX2 ah cy S_105) H := hP
        replace hD : va_D A (bX2 ah cy S_105) := hD
        refine lv_aload_n hx hb dX2_readStatement_108 rfl (lv_at hl 1 rfl) ?_
        refine lv_iconst (v := (2 : Int32)) hx hb dX2_readStatement_109 (by decide) ?_
        refine zc_vf (ws' := fun u => (bX2 ah cy u)) (va_runV (As := [.int (2 : Int32)]) (rest := []) ⟨hx, hb, hml, hown, htB⟩ (c_X2_readNumber l D cy ah H.size (2 : Int32) S_105 h) (cwV 1 htB (zgV zm_444 zm_446 zm_447 zm_99 zm_445) rfl rfl rfl hd_X2_readNumber ⟨Nat.le_of_ble_eq_true rfl, Nat.le_of_ble_eq_true rfl⟩) ⟨zM_blind, va_recv hK hP (ci := 2) (q0 := 0) rfl rfl, zM_pre hP hK hN hD⟩ rfl rfl hl.1 rfl (lv_room (Nat.le_of_ble_eq_true rfl)) dX2_readStatement_110 ⟨Nat.zero_le _, Nat.zero_le _⟩) hS hA hP hD (fun u => rfl) (fun u => rfl) (fun u H locs h hP hD hS => ?_)
        obtain ⟨S_110, eu⟩ : ∃ z, z = u := ⟨_, rfl⟩
        subst eu
        replace hP : va_P D zCl (bX2 ah cy S_110) H := hP
        replace hD : va_D A (bX2 ah cy S_110) := hD
        refine lv_aload_n hx hb dX2_readStatement_113 rfl (lv_at hl 1 rfl) ?_
        refine lv_bipush (v := (44 : Int32)) hx hb dX2_readStatement_114 (by decide) ?_
        refine zc_vf (ws' := fun u => (bX2 ah cy u)) (va_runV (As := [.int (44 : Int32)]) (rest := []) ⟨hx, hb, hml, hown, htB⟩ (c_X2_readSign l D cy ah H.size (44 : Int32) S_110 h) (cwV 1 htB (zgV zm_440 zm_442 zm_443 zm_99 zm_441) rfl rfl rfl hd_X2_readSign ⟨Nat.le_of_ble_eq_true rfl, Nat.le_of_ble_eq_true rfl⟩) ⟨zM_blind, va_recv hK hP (ci := 2) (q0 := 0) rfl rfl, zM_pre hP hK hN hD⟩ rfl rfl hl.1 rfl (lv_room (Nat.le_of_ble_eq_true rfl)) dX2_readStatement_116 ⟨Nat.zero_le _, Nat.zero_le _⟩) hS hA hP hD (fun u => rfl) (fun u => rfl) (fun u H locs h hP hD hS => ?_)
        obtain ⟨S_116, eu⟩ : ∃ z, z = u := ⟨_, rfl⟩
        subst eu
        replace hP : va_P D zCl (bX2 ah cy S_116) H := hP
        replace hD : va_D A (bX2 ah cy S_116) := hD
        refine lv_aload_n hx hb dX2_readStatement_119 rfl (lv_at hl 1 rfl) ?_
        refine lv_iconst (v := (3 : Int32)) hx hb dX2_readStatement_120 (by decide) ?_
        refine lv_bipush (v := (6 : Int32)) hx hb dX2_readStatement_121 (by decide) ?_
        refine zc_vf (ws' := fun u => (bX2 ah cy u)) (va_runV (As := [.int (3 : Int32), .int (6 : Int32)]) (rest := []) ⟨hx, hb, hml, hown, htB⟩ (c_X2_readDigits l D cy ah H.size (3 : Int32) (6 : Int32) S_116 h) (cwV 2 htB (zgV zm_111 zm_113 zm_114 zm_99 zm_112) rfl rfl rfl hd_X2_readDigits ⟨Nat.le_of_ble_eq_true rfl, Nat.le_of_ble_eq_true rfl⟩) ⟨zM_blind, va_recv hK hP (ci := 2) (q0 := 0) rfl rfl, zM_pre hP hK hN hD⟩ rfl rfl hl.1 rfl (lv_room (Nat.le_of_ble_eq_true rfl)) dX2_readStatement_123 ⟨Nat.zero_le _, Nat.zero_le _⟩) hS hA hP hD (fun u => rfl) (fun u => rfl) (fun u H locs h hP hD hS => ?_)
        obtain ⟨S_123, eu⟩ : ∃ z, z = u := ⟨_, rfl⟩
        subst eu
        replace hP : va_P D zCl (bX2 ah cy S_123) H := hP
        replace hD : va_D A (bX2 ah cy S_123) := hD
        refine lv_goto (tgt := 134) hx hb dX2_readStatement_126 (by decide) ?_
        exact L134 r1 S_123 h H locs hP hD hS ls (lv_sub hl [1, 0] rfl)
      · replace h := And.right h c6_2
        refine lv_lookup (off := 123) (tgt := 129) hx hb dX2_readStatement_6 (by decide) (by show Op.lookupswitch.offset [(99, 53), (100, 34), (119, 77)] 123 _ = 123; rw [lv_osw c6_0 (a := 99) rfl, lv_osw c6_1 (a := 100) rfl, lv_osw c6_2 (a := 119) rfl]; rfl) (by decide) ?_
        refine lv_aload_n hx hb dX2_readStatement_129 rfl (lv_at hl 1 rfl) ?_
        refine lv_iconst (v := (1 : Int32)) hx hb dX2_readStatement_130 (by decide) ?_
        refine va_put (D := D) (ci := 2) (v := .int (1 : Int32)) (ty := .boolean) (C := RX2) (T := TX2) (N := 5) hx hb htB ziX2 tyX2 tyX2_ok nmX2 hown hK hP hD hS 0 rfl rfl 3 (by decide) (htB _ zm_96) (fun _ h9 => h9) rfl (tyX2_ok 3 (by decide)) rfl rfl (Nat.le_of_ble_eq_true rfl) dX2_readStatement_131 (fun H locs hP hD hS => ?_)
        obtain ⟨S_131, eS_131⟩ : ∃ z : zT, z = (va_up S 3 (fun _ => (1 : Int32))) := ⟨_, rfl⟩
        replace h := h S_131 eS_131
        replace hP : va_P D zCl (bX2 ah cy S_131) H := by rw [eS_131]; exact hP
        replace hD : va_D A (bX2 ah cy S_131) := by rw [eS_131]; exact hD
        exact L134 r1 S_131 h H locs hP hD hS ls (lv_sub hl [1, 0] rfl)
set_option maxHeartbeats 4000000 in
set_option maxRecDepth 100000 in
theorem c_X2_findFault (l : Launch) (D : va_G) (cy : ClassId) (ah : Nat → Nat) (ao1 : Nat → Nat) (sz : Nat) (So1 : zT) (S : zT) {Q : Int32 → zT → Prop} (h : wp_X2_findFault So1 S Q) : Met l yX2_findFault w_X2_findFault rm_X2_findFault (va_Pc [.ref (ah 99), .ref (ao1 99)] (zMC D cy ((bX2 ah cy S) ++ ((bX3 ao1 cy So1))) sz)) (va_Qi (S := zT) (fun (r : Int32) (u : zT) => Q r u) (fun u t => va_P D zCl ((fun (u : zT) => ((bX2 ah cy u) ++ ((bX3 ao1 cy So1)))) u) t.heap) (va_A ((bX2 ah cy S) ++ ((bX3 ao1 cy So1))) sz)) 0 0 (va_A ((bX2 ah cy S) ++ ((bX3 ao1 cy So1))) sz) := by
  refine zOf_ic (by decide) (Nat.le_of_ble_eq_true rfl) ?_
  intro p e s m below meth c ls A H locs hx hb hr hml hown htB hlocks hK hN hC hP hD hS hA hl
  replace hl : lv_has ls 7 [(0, .ref (ah 99)), (1, .ref (ao1 99))] := hl
  have L95 : ∀ (x3 : Int32) (S : zT), wpb_X2_findFault_95 So1 Q x3 S → ∀ (H : Heap) (locs : List Loc), va_P D zCl ((bX2 ah cy S) ++ ((bX3 ao1 cy So1))) H → va_D A ((bX2 ah cy S) ++ ((bX3 ao1 cy So1))) → va_S A s.heap H locs → ∀ ls : Array Slot, lv_has ls 7 [(0, .ref (ah 99)), (3, .int x3)] → W p l e rm_X2_findFault s m ([.ref (ah 99), .ref (ao1 99)] : List Value).toArray below meth c H locs 0 0 (MQ below (va_Qi (S := zT) (fun (r : Int32) (u : zT) => Q r u) (fun u t => va_P D zCl ((fun (u : zT) => ((bX2 ah cy u) ++ ((bX3 ao1 cy So1)))) u) t.heap) A) ([.ref (ah 99), .ref (ao1 99)] : List Value).toArray s 0 0 A) (F0 m 95 ls []) := by
    intro x3 S h H locs hP hD hS ls hl
    refine lv_aload_n hx hb dX2_findFault_95 rfl (lv_at hl 0 rfl) ?_
    refine va_get (D := D) (ci := 2) (v := .int (S 3 0)) (C := RX2) (T := TX2) (N := 5) hx hb htB ziX2 hown hK hP 0 rfl rfl 3 (by decide) (htB _ zm_96) (fun _ h9 => h9) rfl dX2_findFault_96 ?_
    refine lv_if_eq (tgt := 111) hx hb dX2_findFault_99 (by decide) (fun c99 => ?_) (fun c99 => ?_)
    · replace h := And.left h c99
      refine lv_iload_n hx hb dX2_findFault_111 rfl (lv_at hl 1 rfl) ?_
      refine lv_if_ge (tgt := 119) hx hb dX2_findFault_112 (by decide) (fun c112 => ?_) (fun c112 => ?_)
      · replace h := And.left h c112
        refine lv_sipush (v := (-2000 : Int32)) hx hb dX2_findFault_119 (by decide) ?_
        refine lv_iload_n hx hb dX2_findFault_122 rfl (lv_at hl 1 rfl) ?_
        refine lv_isub hx hb dX2_findFault_123 ?_
        exact W.iret (v := ((-2000 : Int32) - x3)) hx hb hr (fun t ht hW => ⟨⟨_, S, rfl, h, zP_h ht hP⟩, hS.F ht⟩) hS.2.2 dX2_findFault_124
      · replace h := And.right h c112
        refine lv_iconst (v := (0 : Int32)) hx hb dX2_findFault_115 (by decide) ?_
        refine lv_goto (tgt := 124) hx hb dX2_findFault_116 (by decide) ?_
        exact W.iret (v := (0 : Int32)) hx hb hr (fun t ht hW => ⟨⟨_, S, rfl, h, zP_h ht hP⟩, hS.F ht⟩) hS.2.2 dX2_findFault_124
    · replace h := And.right h c99
      refine lv_sipush (v := (-1000 : Int32)) hx hb dX2_findFault_102 (by decide) ?_
      refine lv_aload_n hx hb dX2_findFault_105 rfl (lv_at hl 0 rfl) ?_
      refine va_get (D := D) (ci := 2) (v := .int (S 2 0)) (C := RX2) (T := TX2) (N := 5) hx hb htB ziX2 hown hK hP 0 rfl rfl 2 (by decide) (htB _ zm_95) (fun _ h9 => h9) rfl dX2_findFault_106 ?_
      refine lv_isub hx hb dX2_findFault_109 ?_
      exact W.iret (v := ((-1000 : Int32) - (S 2 0))) hx hb hr (fun t ht hW => ⟨⟨_, S, rfl, h, zP_h ht hP⟩, hS.F ht⟩) hS.2.2 dX2_findFault_110
  have L15 : ∀ (k15 : Nat) (x2 : Int32) (x3 : Int32) (x4 : Int32) (S : zT), wpl_X2_findFault_15 So1 Q k15 x2 x3 x4 S → ∀ (H : Heap) (locs : List Loc), va_P D zCl ((bX2 ah cy S) ++ ((bX3 ao1 cy So1))) H → va_D A ((bX2 ah cy S) ++ ((bX3 ao1 cy So1))) → va_S A s.heap H locs → ∀ ls : Array Slot, lv_has ls 7 [(0, .ref (ah 99)), (2, .int x2), (3, .int x3), (4, .int x4)] → W p l e rm_X2_findFault s m ([.ref (ah 99), .ref (ao1 99)] : List Value).toArray below meth c H locs 0 0 (MQ below (va_Qi (S := zT) (fun (r : Int32) (u : zT) => Q r u) (fun u t => va_P D zCl ((fun (u : zT) => ((bX2 ah cy u) ++ ((bX3 ao1 cy So1)))) u) t.heap) A) ([.ref (ah 99), .ref (ao1 99)] : List Value).toArray s 0 0 A) (F0 m 15 ls []) := by
    intro k15
    induction k15 with
    | zero => exact fun x2 x3 x4 S h => False.elim h
    | succ k15 ih15 =>
      have L87 : ∀ (x3 : Int32) (x4 : Int32) (t0 : Int32) (t1 : Int32) (S : zT), wpb_X2_findFault_87 So1 Q (wpl_X2_findFault_15 So1 Q k15) x3 x4 t0 t1 S → ∀ (H : Heap) (locs : List Loc), va_P D zCl ((bX2 ah cy S) ++ ((bX3 ao1 cy So1))) H → va_D A ((bX2 ah cy S) ++ ((bX3 ao1 cy So1))) → va_S A s.heap H locs → ∀ ls : Array Slot, lv_has ls 7 [(0, .ref (ah 99)), (3, .int x3), (4, .int x4)] → W p l e rm_X2_findFault s m ([.ref (ah 99), .ref (ao1 99)] : List Value).toArray below meth c H locs 0 0 (MQ below (va_Qi (S := zT) (fun (r : Int32) (u : zT) => Q r u) (fun u t => va_P D zCl ((fun (u : zT) => ((bX2 ah cy u) ++ ((bX3 ao1 cy So1)))) u) t.heap) A) ([.ref (ah 99), .ref (ao1 99)] : List Value).toArray s 0 0 A) (F0 m 87 ls [.int t1, .int t0]) := by
        intro x3 x4 t0 t1 S h H locs hP hD hS ls hl
        refine lv_iadd hx hb dX2_findFault_87 ?_
        refine lv_topi (fun y88 ey88 => ?_)
        replace h := h y88 ey88
        refine lv_istore_n (lv' := [(2, .int y88), (0, .ref (ah 99)), (3, .int x3), (4, .int x4)]) hx hb dX2_findFault_88 rfl hl (by decide) rfl (fun ls hl => ?_)
        obtain ⟨y89, ey89⟩ : ∃ z : Int32, z = (x4 + (1 : Int32)) := ⟨_, rfl⟩
        replace h := h y89 ey89
        refine lv_iinc (v := y89) (lv' := [(4, .int y89), (2, .int y88), (0, .ref (ah 99)), (3, .int x3)]) hx hb dX2_findFault_89 hl (k := 3) rfl (by rw [ey89]; rfl) (by decide) rfl (fun ls hl => ?_)
        refine lv_goto (tgt := 15) hx hb dX2_findFault_92 (by decide) ?_
        exact ih15 y88 x3 y89 S h H locs hP hD hS ls (lv_sub hl [2, 1, 3, 0] rfl)
      have L74 : ∀ (x2 : Int32) (x3 : Int32) (x4 : Int32) (x6 : Int32) (S : zT), wpb_X2_findFault_74 So1 Q (wpl_X2_findFault_15 So1 Q k15) x2 x3 x4 x6 S → ∀ (H : Heap) (locs : List Loc), va_P D zCl ((bX2 ah cy S) ++ ((bX3 ao1 cy So1))) H → va_D A ((bX2 ah cy S) ++ ((bX3 ao1 cy So1))) → va_S A s.heap H locs → ∀ ls : Array Slot, lv_has ls 7 [(0, .ref (ah 99)), (2, .int x2), (3, .int x3), (4, .int x4), (6, .int x6)] → W p l e rm_X2_findFault s m ([.ref (ah 99), .ref (ao1 99)] : List Value).toArray below meth c H locs 0 0 (MQ below (va_Qi (S := zT) (fun (r : Int32) (u : zT) => Q r u) (fun u t => va_P D zCl ((fun (u : zT) => ((bX2 ah cy u) ++ ((bX3 ao1 cy So1)))) u) t.heap) A) ([.ref (ah 99), .ref (ao1 99)] : List Value).toArray s 0 0 A) (F0 m 74 ls []) := by
        intro x2 x3 x4 x6 S h H locs hP hD hS ls hl
        refine lv_iload_n hx hb dX2_findFault_74 rfl (lv_at hl 1 rfl) ?_
        refine lv_iload hx hb dX2_findFault_75 (lv_at hl 4 rfl) ?_
        refine lv_bipush (v := (119 : Int32)) hx hb dX2_findFault_77 (by decide) ?_
        refine lv_icmp_ne (tgt := 86) hx hb dX2_findFault_79 (by decide) (fun c79 => ?_) (fun c79 => ?_)
        · replace h := And.right h c79
          refine lv_iconst (v := (0 : Int32)) hx hb dX2_findFault_86 (by decide) ?_
          exact L87 x3 x4 x2 (0 : Int32) S h H locs hP hD hS ls (lv_sub hl [0, 2, 3] rfl)
        · replace h := And.left h c79
          refine lv_iconst (v := (1 : Int32)) hx hb dX2_findFault_82 (by decide) ?_
          refine lv_goto (tgt := 87) hx hb dX2_findFault_83 (by decide) ?_
          exact L87 x3 x4 x2 (1 : Int32) S h H locs hP hD hS ls (lv_sub hl [0, 2, 3] rfl)
      have L45 : ∀ (x2 : Int32) (x3 : Int32) (x4 : Int32) (S : zT), wpb_X2_findFault_45 So1 Q (wpl_X2_findFault_15 So1 Q k15) x2 x3 x4 S → ∀ (H : Heap) (locs : List Loc), va_P D zCl ((bX2 ah cy S) ++ ((bX3 ao1 cy So1))) H → va_D A ((bX2 ah cy S) ++ ((bX3 ao1 cy So1))) → va_S A s.heap H locs → ∀ ls : Array Slot, lv_has ls 7 [(0, .ref (ah 99)), (2, .int x2), (3, .int x3), (4, .int x4)] → W p l e rm_X2_findFault s m ([.ref (ah 99), .ref (ao1 99)] : List Value).toArray below meth c H locs 0 0 (MQ below (va_Qi (S := zT) (fun (r : Int32) (u : zT) => Q r u) (fun u t => va_P D zCl ((fun (u : zT) => ((bX2 ah cy u) ++ ((bX3 ao1 cy So1)))) u) t.heap) A) ([.ref (ah 99), .ref (ao1 99)] : List Value).toArray s 0 0 A) (F0 m 45 ls []) := by
        intro x2 x3 x4 S h H locs hP hD hS ls hl
        refine lv_aload_n hx hb dX2_findFault_45 rfl (lv_at hl 0 rfl) ?_
        refine va_get (D := D) (ci := 2) (v := .int (S 2 0)) (C := RX2) (T := TX2) (N := 5) hx hb htB ziX2 hown hK hP 0 rfl rfl 2 (by decide) (htB _ zm_95) (fun _ h9 => h9) rfl dX2_findFault_46 ?_
        refine lv_topi (fun y49 ey49 => ?_)
        replace h := h y49 ey49
        refine lv_istore (lv' := [(5, .int y49), (0, .ref (ah 99)), (2, .int x2), (3, .int x3), (4, .int x4)]) hx hb dX2_findFault_49 hl (by decide) rfl (fun ls hl => ?_)
        refine lv_aload_n hx hb dX2_findFault_51 rfl (lv_at hl 1 rfl) ?_
        have hPc : va_P D zCl (bX2 ah cy S) H := hP.sub [0, 1, 2] rfl
        have hDc : va_D A (bX2 ah cy S) := hD.sub [0, 1, 2] (by decide) rfl
        refine zc_i (ws' := fun u => ((bX2 ah cy u) ++ ((bX3 ao1 cy So1)))) (va_runV (As := []) (rest := []) ⟨hx, hb, hml, hown, htB⟩ (c_X2_readStatement l D cy ah H.size S h) (cwV 0 htB (zgV zm_452 zm_454 zm_455 zm_99 zm_453) rfl rfl rfl hd_X2_readStatement ⟨Nat.le_of_ble_eq_true rfl, Nat.le_of_ble_eq_true rfl⟩) ⟨zMC_blind, va_recv hK hP (ci := 2) (q0 := 0) rfl rfl, zMC_pre hPc hK hN hDc hS hA hC⟩ rfl rfl hl.1 rfl (lv_room (Nat.le_of_ble_eq_true rfl)) dX2_findFault_52 ⟨Nat.zero_le _, Nat.zero_le _⟩) hS hA hP hD [0, 1, 2] [3, 4, 5] [3, 4, 5, 0, 1, 2] (by decide) rfl (by decide) (by decide) rfl (fun u => rfl) (fun u => rfl) (fun u => rfl) (fun r52 u H locs h hP hD hS => ?_)
        obtain ⟨S_52, eu⟩ : ∃ z, z = u := ⟨_, rfl⟩
        subst eu
        replace hP : va_P D zCl ((bX2 ah cy S_52) ++ ((bX3 ao1 cy So1))) H := hP
        replace hD : va_D A ((bX2 ah cy S_52) ++ ((bX3 ao1 cy So1))) := hD
        refine lv_istore (lv' := [(6, .int r52), (5, .int y49), (0, .ref (ah 99)), (2, .int x2), (3, .int x3), (4, .int x4)]) hx hb dX2_findFault_55 hl (by decide) rfl (fun ls hl => ?_)
        refine lv_iload_n hx hb dX2_findFault_57 rfl (lv_at hl 4 rfl) ?_
        refine lv_if_ge (tgt := 74) hx hb dX2_findFault_58 (by decide) (fun c58 => ?_) (fun c58 => ?_)
        · replace h := And.left h c58
          exact L74 x2 x3 x4 r52 S_52 h H locs hP hD hS ls (lv_sub hl [2, 3, 4, 5, 0] rfl)
        · replace h := And.right h c58
          refine lv_aload_n hx hb dX2_findFault_61 rfl (lv_at hl 2 rfl) ?_
          refine lv_iload hx hb dX2_findFault_62 (lv_at hl 0 rfl) ?_
          refine lv_iload_n hx hb dX2_findFault_64 rfl (lv_at hl 3 rfl) ?_
          have hPc : va_P D zCl (bX2 ah cy S_52) H := hP.sub [0, 1, 2] rfl
          refine zc_r (va_runV (As := [.int r52, .int x2]) (rest := []) ⟨hx, hb, hml, hown, htB⟩ (c_X2_isAsItMustBe l D cy ah S_52 r52 x2 h) (cwV 2 htB (zgV zm_456 zm_458 zm_459 zm_99 zm_457) rfl rfl rfl hd_X2_isAsItMustBe ⟨Nat.le_of_ble_eq_true rfl, Nat.le_of_ble_eq_true rfl⟩) ⟨zR_blind, va_recv hK hP (ci := 2) (q0 := 0) rfl rfl, zR_pre hPc hK hN⟩ rfl rfl hl.1 rfl (lv_room (Nat.le_of_ble_eq_true rfl)) dX2_findFault_65 ⟨Nat.zero_le _, Nat.zero_le _⟩) (fun r65 h => ?_)
          refine lv_if_ne (tgt := 74) hx hb dX2_findFault_68 (by decide) (fun c68 => ?_) (fun c68 => ?_)
          · replace h := And.right h c68
            exact L74 x2 x3 x4 r52 S_52 h H locs hP hD hS ls (lv_sub hl [2, 3, 4, 5, 0] rfl)
          · replace h := And.left h c68
            refine lv_iload hx hb dX2_findFault_71 (lv_at hl 1 rfl) ?_
            refine lv_istore_n (lv' := [(3, .int y49), (6, .int r52), (5, .int y49), (0, .ref (ah 99)), (2, .int x2), (4, .int x4)]) hx hb dX2_findFault_73 rfl hl (by decide) rfl (fun ls hl => ?_)
            exact L74 x2 y49 x4 r52 S_52 h H locs hP hD hS ls (lv_sub hl [3, 4, 0, 5, 1] rfl)
      intro x2 x3 x4 S h H locs hP hD hS ls hl
      refine lv_iload hx hb dX2_findFault_15 (lv_at hl 3 rfl) ?_
      refine lv_bipush (v := (80 : Int32)) hx hb dX2_findFault_17 (by decide) ?_
      refine lv_icmp_ge (tgt := 95) hx hb dX2_findFault_19 (by decide) (fun c19 => ?_) (fun c19 => ?_)
      · replace h := And.left h c19
        exact L95 x3 S h H locs hP hD hS ls (lv_sub hl [0, 2] rfl)
      · replace h := And.right h c19
        refine lv_aload_n hx hb dX2_findFault_22 rfl (lv_at hl 0 rfl) ?_
        refine va_get (D := D) (ci := 2) (v := .int (S 3 0)) (C := RX2) (T := TX2) (N := 5) hx hb htB ziX2 hown hK hP 0 rfl rfl 3 (by decide) (htB _ zm_96) (fun _ h9 => h9) rfl dX2_findFault_23 ?_
        refine lv_if_ne (tgt := 95) hx hb dX2_findFault_26 (by decide) (fun c26 => ?_) (fun c26 => ?_)
        · replace h := And.right h c26
          exact L95 x3 S h H locs hP hD hS ls (lv_sub hl [0, 2] rfl)
        · replace h := And.left h c26
          refine lv_iload hx hb dX2_findFault_29 (lv_at hl 3 rfl) ?_
          refine lv_if_eq (tgt := 45) hx hb dX2_findFault_31 (by decide) (fun c31 => ?_) (fun c31 => ?_)
          · replace h := And.left h c31
            exact L45 x2 x3 x4 S h H locs hP hD hS ls (lv_sub hl [0, 1, 2, 3] rfl)
          · replace h := And.right h c31
            refine lv_aload_n hx hb dX2_findFault_34 rfl (lv_at hl 0 rfl) ?_
            refine va_get (D := D) (ci := 2) (v := .int (S 2 0)) (C := RX2) (T := TX2) (N := 5) hx hb htB ziX2 hown hK hP 0 rfl rfl 2 (by decide) (htB _ zm_95) (fun _ h9 => h9) rfl dX2_findFault_35 ?_
            refine lv_aload_n hx hb dX2_findFault_38 rfl (lv_at hl 0 rfl) ?_
            refine va_get (D := D) (ci := 2) (v := .int (S 1 0)) (C := RX2) (T := TX2) (N := 5) hx hb htB ziX2 hown hK hP 0 rfl rfl 1 (by decide) (htB _ zm_93) (fun _ h9 => h9) rfl dX2_findFault_39 ?_
            refine lv_icmp_ge (tgt := 95) hx hb dX2_findFault_42 (by decide) (fun c42 => ?_) (fun c42 => ?_)
            · replace h := And.left h c42
              exact L95 x3 S h H locs hP hD hS ls (lv_sub hl [0, 2] rfl)
            · replace h := And.right h c42
              exact L45 x2 x3 x4 S h H locs hP hD hS ls (lv_sub hl [0, 1, 2, 3] rfl)
  refine lv_aload_n hx hb dX2_findFault_0 rfl (lv_at hl 0 rfl) ?_
  have hPc : va_P D zCl (bX2 ah cy S) H := hP.sub [0, 1, 2] rfl
  have hDc : va_D A (bX2 ah cy S) := hD.sub [0, 1, 2] (by decide) rfl
  refine zc_v (ws' := fun u => ((bX2 ah cy u) ++ ((bX3 ao1 cy So1)))) (va_runV (As := []) (rest := []) ⟨hx, hb, hml, hown, htB⟩ (c_X2_begin l D cy ah H.size S h) (cwV 0 htB (zgV zm_460 zm_462 zm_463 zm_99 zm_461) rfl rfl rfl hd_X2_begin ⟨Nat.le_of_ble_eq_true rfl, Nat.le_of_ble_eq_true rfl⟩) ⟨zM_blind, va_recv hK hP (ci := 2) (q0 := 0) rfl rfl, zM_pre hPc hK hN hDc⟩ rfl rfl hl.1 rfl (lv_room (Nat.le_of_ble_eq_true rfl)) dX2_findFault_1 ⟨Nat.zero_le _, Nat.zero_le _⟩) hS hA hP hD [0, 1, 2] [3, 4, 5] [3, 4, 5, 0, 1, 2] (by decide) rfl (by decide) (by decide) rfl (fun u => rfl) (fun u => rfl) (fun u => rfl) (fun u H locs h hP hD hS => ?_)
  obtain ⟨S_1, eu⟩ : ∃ z, z = u := ⟨_, rfl⟩
  subst eu
  replace hP : va_P D zCl ((bX2 ah cy S_1) ++ ((bX3 ao1 cy So1))) H := hP
  replace hD : va_D A ((bX2 ah cy S_1) ++ ((bX3 ao1 cy So1))) := hD
  refine lv_aload_n hx hb dX2_findFault_4 rfl (lv_at hl 1 rfl) ?_
  refine va_getN (D := D) (ci := 3) (v := .int (So1 2 0)) (C := RX3) (T := TX3) (N := 3) hx hb htB ziX3 hown hK hP 3 rfl rfl 2 (by decide) (va_Nw.use rfl (hN _ zm_464)) (fun _ h9 => h9) rfl dX2_findFault_5 ?_
  refine lv_topi (fun y8 ey8 => ?_)
  replace h := h y8 ey8
  refine lv_istore_n (lv' := [(2, .int y8), (0, .ref (ah 99)), (1, .ref (ao1 99))]) hx hb dX2_findFault_8 rfl hl (by decide) rfl (fun ls hl => ?_)
  refine lv_bipush (v := (-9 : Int32)) hx hb dX2_findFault_9 (by decide) ?_
  refine lv_istore_n (lv' := [(3, .int (-9 : Int32)), (2, .int y8), (0, .ref (ah 99)), (1, .ref (ao1 99))]) hx hb dX2_findFault_11 rfl hl (by decide) rfl (fun ls hl => ?_)
  refine lv_iconst (v := (0 : Int32)) hx hb dX2_findFault_12 (by decide) ?_
  refine lv_istore (lv' := [(4, .int (0 : Int32)), (3, .int (-9 : Int32)), (2, .int y8), (0, .ref (ah 99)), (1, .ref (ao1 99))]) hx hb dX2_findFault_13 hl (by decide) rfl (fun ls hl => ?_)
  obtain ⟨nn, h⟩ := h
  exact L15 nn y8 (-9 : Int32) (0 : Int32) S_1 h H locs hP hD hS ls (lv_sub hl [3, 2, 1, 0] rfl)
set_option maxHeartbeats 4000000 in
set_option maxRecDepth 100000 in
theorem c_X2_bringInto (l : Launch) (D : va_G) (cy : ClassId) (ah : Nat → Nat) (ao1 : Nat → Nat) (sz : Nat) (S : zT) (So1 : zT) {Q : Int32 → zT → zT → Prop} (h : wp_X2_bringInto S So1 Q) : Met l yX2_bringInto w_X2_bringInto rm_X2_bringInto (va_Pc [.ref (ah 99), .ref (ao1 99)] (zMC D cy ((bX2 ah cy S) ++ ((bX3 ao1 cy So1))) sz)) (va_Qi (S := zT × zT) (fun (r : Int32) (u : zT × zT) => Q r (u.1) (u.2)) (fun u t => va_P D zCl ((fun (u : zT × zT) => ((bX2 ah cy (u.1)) ++ ((bX3 ao1 cy (u.2))))) u) t.heap) (va_A ((bX2 ah cy S) ++ ((bX3 ao1 cy So1))) sz)) 0 0 (va_A ((bX2 ah cy S) ++ ((bX3 ao1 cy So1))) sz) := by
  refine zOf_ic (by decide) (Nat.le_of_ble_eq_true rfl) ?_
  intro p e s m below meth c ls A H locs hx hb hr hml hown htB hlocks hK hN hC hP hD hS hA hl
  replace hl : lv_has ls 4 [(0, .ref (ah 99)), (1, .ref (ao1 99))] := hl
  have L8 : ∀ (k8 : Nat) (x2 : Int32) (x3 : Int32) (S : zT) (So1 : zT), wpl_X2_bringInto_8 Q k8 x2 x3 S So1 → ∀ (H : Heap) (locs : List Loc), va_P D zCl ((bX2 ah cy S) ++ ((bX3 ao1 cy So1))) H → va_D A ((bX2 ah cy S) ++ ((bX3 ao1 cy So1))) → va_S A s.heap H locs → ∀ ls : Array Slot, lv_has ls 4 [(0, .ref (ah 99)), (1, .ref (ao1 99)), (2, .int x2), (3, .int x3)] → W p l e rm_X2_bringInto s m ([.ref (ah 99), .ref (ao1 99)] : List Value).toArray below meth c H locs 0 0 (MQ below (va_Qi (S := zT × zT) (fun (r : Int32) (u : zT × zT) => Q r (u.1) (u.2)) (fun u t => va_P D zCl ((fun (u : zT × zT) => ((bX2 ah cy (u.1)) ++ ((bX3 ao1 cy (u.2))))) u) t.heap) A) ([.ref (ah 99), .ref (ao1 99)] : List Value).toArray s 0 0 A) (F0 m 8 ls []) := by
    intro k8
    induction k8 with
    | zero => exact fun x2 x3 S So1 h => False.elim h
    | succ k8 ih8 =>
      intro x2 x3 S So1 h H locs hP hD hS ls hl
      refine lv_iload_n hx hb dX2_bringInto_8 rfl (lv_at hl 3 rfl) ?_
      refine lv_bipush (v := (80 : Int32)) hx hb dX2_bringInto_9 (by decide) ?_
      refine lv_icmp_ge (tgt := 50) hx hb dX2_bringInto_11 (by decide) (fun c11 => ?_) (fun c11 => ?_)
      · replace h := And.left h c11
        refine lv_iload_n hx hb dX2_bringInto_50 rfl (lv_at hl 2 rfl) ?_
        exact W.iret (v := x2) hx hb hr (fun t ht hW => ⟨⟨_, (S, So1), rfl, h, zP_h ht hP⟩, hS.F ht⟩) hS.2.2 dX2_bringInto_51
      · replace h := And.right h c11
        refine lv_aload_n hx hb dX2_bringInto_14 rfl (lv_at hl 0 rfl) ?_
        refine va_get (D := D) (ci := 2) (v := .int (S 3 0)) (C := RX2) (T := TX2) (N := 5) hx hb htB ziX2 hown hK hP 0 rfl rfl 3 (by decide) (htB _ zm_96) (fun _ h9 => h9) rfl dX2_bringInto_15 ?_
        refine lv_if_ne (tgt := 50) hx hb dX2_bringInto_18 (by decide) (fun c18 => ?_) (fun c18 => ?_)
        · replace h := And.right h c18
          refine lv_iload_n hx hb dX2_bringInto_50 rfl (lv_at hl 2 rfl) ?_
          exact W.iret (v := x2) hx hb hr (fun t ht hW => ⟨⟨_, (S, So1), rfl, h, zP_h ht hP⟩, hS.F ht⟩) hS.2.2 dX2_bringInto_51
        · replace h := And.left h c18
          refine lv_aload_n hx hb dX2_bringInto_21 rfl (lv_at hl 0 rfl) ?_
          refine va_get (D := D) (ci := 2) (v := .int (S 2 0)) (C := RX2) (T := TX2) (N := 5) hx hb htB ziX2 hown hK hP 0 rfl rfl 2 (by decide) (htB _ zm_95) (fun _ h9 => h9) rfl dX2_bringInto_22 ?_
          refine lv_aload_n hx hb dX2_bringInto_25 rfl (lv_at hl 0 rfl) ?_
          refine va_get (D := D) (ci := 2) (v := .int (S 1 0)) (C := RX2) (T := TX2) (N := 5) hx hb htB ziX2 hown hK hP 0 rfl rfl 1 (by decide) (htB _ zm_93) (fun _ h9 => h9) rfl dX2_bringInto_26 ?_
          refine lv_icmp_ge (tgt := 50) hx hb dX2_bringInto_29 (by decide) (fun c29 => ?_) (fun c29 => ?_)
          · replace h := And.left h c29
            refine lv_iload_n hx hb dX2_bringInto_50 rfl (lv_at hl 2 rfl) ?_
            exact W.iret (v := x2) hx hb hr (fun t ht hW => ⟨⟨_, (S, So1), rfl, h, zP_h ht hP⟩, hS.F ht⟩) hS.2.2 dX2_bringInto_51
          · replace h := And.right h c29
            refine lv_aload_n hx hb dX2_bringInto_32 rfl (lv_at hl 0 rfl) ?_
            refine lv_aload_n hx hb dX2_bringInto_33 rfl (lv_at hl 1 rfl) ?_
            refine lv_aload_n hx hb dX2_bringInto_34 rfl (lv_at hl 0 rfl) ?_
            have hPc : va_P D zCl (bX2 ah cy S) H := hP.sub [0, 1, 2] rfl
            have hDc : va_D A (bX2 ah cy S) := hD.sub [0, 1, 2] (by decide) rfl
            refine zc_i (ws' := fun u => ((bX2 ah cy u) ++ ((bX3 ao1 cy So1)))) (va_runV (As := []) (rest := [.ref (ao1 99), .ref (ah 99)]) ⟨hx, hb, hml, hown, htB⟩ (c_X2_readStatement l D cy ah H.size S h) (cwV 0 htB (zgV zm_452 zm_454 zm_455 zm_99 zm_453) rfl rfl rfl hd_X2_readStatement ⟨Nat.le_of_ble_eq_true rfl, Nat.le_of_ble_eq_true rfl⟩) ⟨zMC_blind, va_recv hK hP (ci := 2) (q0 := 0) rfl rfl, zMC_pre hPc hK hN hDc hS hA hC⟩ rfl rfl hl.1 rfl (lv_room (Nat.le_of_ble_eq_true rfl)) dX2_bringInto_35 ⟨Nat.zero_le _, Nat.zero_le _⟩) hS hA hP hD [0, 1, 2] [3, 4, 5] [3, 4, 5, 0, 1, 2] (by decide) rfl (by decide) (by decide) rfl (fun u => rfl) (fun u => rfl) (fun u => rfl) (fun r35 u H locs h hP hD hS => ?_)
            obtain ⟨S_35, eu⟩ : ∃ z, z = u := ⟨_, rfl⟩
            subst eu
            replace hP : va_P D zCl ((bX2 ah cy S_35) ++ ((bX3 ao1 cy So1))) H := hP
            replace hD : va_D A ((bX2 ah cy S_35) ++ ((bX3 ao1 cy So1))) := hD
            refine zc_vf (ws' := fun u => ((bX2 ah cy S_35) ++ ((bX3 ao1 cy u)))) (va_runV (As := [.ref (ao1 99), .int r35]) (rest := []) ⟨hx, hb, hml, hown, htB⟩ (c_X2_bringStatement l D cy ah ao1 H.size S_35 r35 So1 h) (cwV 2 htB (zgV zm_465 zm_467 zm_468 zm_99 zm_466) rfl rfl rfl hd_X2_bringStatement ⟨Nat.le_of_ble_eq_true rfl, Nat.le_of_ble_eq_true rfl⟩) ⟨zM_blind, va_recv hK hP (ci := 2) (q0 := 0) rfl rfl, zM_pre hP hK hN hD⟩ rfl rfl hl.1 rfl (lv_room (Nat.le_of_ble_eq_true rfl)) dX2_bringInto_38 ⟨Nat.zero_le _, Nat.zero_le _⟩) hS hA hP hD (fun u => rfl) (fun u => rfl) (fun u H locs h hP hD hS => ?_)
            obtain ⟨So1_38, eu⟩ : ∃ z, z = u := ⟨_, rfl⟩
            subst eu
            replace hP : va_P D zCl ((bX2 ah cy S_35) ++ ((bX3 ao1 cy So1_38))) H := hP
            replace hD : va_D A ((bX2 ah cy S_35) ++ ((bX3 ao1 cy So1_38))) := hD
            obtain ⟨y41, ey41⟩ : ∃ z : Int32, z = (x2 + (1 : Int32)) := ⟨_, rfl⟩
            replace h := h y41 ey41
            refine lv_iinc (v := y41) (lv' := [(2, .int y41), (0, .ref (ah 99)), (1, .ref (ao1 99)), (3, .int x3)]) hx hb dX2_bringInto_41 hl (k := 2) rfl (by rw [ey41]; rfl) (by decide) rfl (fun ls hl => ?_)
            obtain ⟨y44, ey44⟩ : ∃ z : Int32, z = (x3 + (1 : Int32)) := ⟨_, rfl⟩
            replace h := h y44 ey44
            refine lv_iinc (v := y44) (lv' := [(3, .int y44), (2, .int y41), (0, .ref (ah 99)), (1, .ref (ao1 99))]) hx hb dX2_bringInto_44 hl (k := 3) rfl (by rw [ey44]; rfl) (by decide) rfl (fun ls hl => ?_)
            refine lv_goto (tgt := 8) hx hb dX2_bringInto_47 (by decide) ?_
            exact ih8 y41 y44 S_35 So1_38 h H locs hP hD hS ls (lv_sub hl [2, 3, 1, 0] rfl)
  refine lv_aload_n hx hb dX2_bringInto_0 rfl (lv_at hl 0 rfl) ?_
  have hPc : va_P D zCl (bX2 ah cy S) H := hP.sub [0, 1, 2] rfl
  have hDc : va_D A (bX2 ah cy S) := hD.sub [0, 1, 2] (by decide) rfl
  refine zc_v (ws' := fun u => ((bX2 ah cy u) ++ ((bX3 ao1 cy So1)))) (va_runV (As := []) (rest := []) ⟨hx, hb, hml, hown, htB⟩ (c_X2_begin l D cy ah H.size S h) (cwV 0 htB (zgV zm_460 zm_462 zm_463 zm_99 zm_461) rfl rfl rfl hd_X2_begin ⟨Nat.le_of_ble_eq_true rfl, Nat.le_of_ble_eq_true rfl⟩) ⟨zM_blind, va_recv hK hP (ci := 2) (q0 := 0) rfl rfl, zM_pre hPc hK hN hDc⟩ rfl rfl hl.1 rfl (lv_room (Nat.le_of_ble_eq_true rfl)) dX2_bringInto_1 ⟨Nat.zero_le _, Nat.zero_le _⟩) hS hA hP hD [0, 1, 2] [3, 4, 5] [3, 4, 5, 0, 1, 2] (by decide) rfl (by decide) (by decide) rfl (fun u => rfl) (fun u => rfl) (fun u => rfl) (fun u H locs h hP hD hS => ?_)
  obtain ⟨S_1, eu⟩ : ∃ z, z = u := ⟨_, rfl⟩
  subst eu
  replace hP : va_P D zCl ((bX2 ah cy S_1) ++ ((bX3 ao1 cy So1))) H := hP
  replace hD : va_D A ((bX2 ah cy S_1) ++ ((bX3 ao1 cy So1))) := hD
  refine lv_iconst (v := (0 : Int32)) hx hb dX2_bringInto_4 (by decide) ?_
  refine lv_istore_n (lv' := [(2, .int (0 : Int32)), (0, .ref (ah 99)), (1, .ref (ao1 99))]) hx hb dX2_bringInto_5 rfl hl (by decide) rfl (fun ls hl => ?_)
  refine lv_iconst (v := (0 : Int32)) hx hb dX2_bringInto_6 (by decide) ?_
  refine lv_istore_n (lv' := [(3, .int (0 : Int32)), (2, .int (0 : Int32)), (0, .ref (ah 99)), (1, .ref (ao1 99))]) hx hb dX2_bringInto_7 rfl hl (by decide) rfl (fun ls hl => ?_)
  obtain ⟨nn, h⟩ := h
  exact L8 nn (0 : Int32) (0 : Int32) S_1 So1 h H locs hP hD hS ls (lv_sub hl [2, 3, 1, 0] rfl)
set_option maxHeartbeats 4000000 in
set_option maxRecDepth 100000 in
theorem c_X4_way (l : Launch) (D : va_G) (cy : ClassId) (ah : Nat → Nat) (an : Nat → Nat) (am : Nat → Nat) (af : Nat → Nat) (ai : Nat → Nat) (aj : Nat → Nat) (al : Nat → Nat) (ag : Nat → Nat) (sz : Nat) (S : zT) (Sn : zT) (Sl : zT) {Q : Int32 → zT → zT → Prop} (h : wp_X4_way S Sn Sl Q) : Met l yX4_way w_X4_way rm_X4_way (va_Pc [.ref (ah 99)] (zMC D cy ((bX4 ah an am af ai aj al ag cy S) ++ ((bX3 an cy Sn) ++ ((bX2 al cy Sl)))) sz)) (va_Qi (S := zT × zT) (fun (r : Int32) (u : zT × zT) => Q r (u.1) (u.2)) (fun u t => va_P D zCl ((fun (u : zT × zT) => ((bX4 ah an am af ai aj al ag cy S) ++ ((bX3 an cy (u.1)) ++ ((bX2 al cy (u.2)))))) u) t.heap) (va_A ((bX4 ah an am af ai aj al ag cy S) ++ ((bX3 an cy Sn) ++ ((bX2 al cy Sl)))) sz)) 0 0 (va_A ((bX4 ah an am af ai aj al ag cy S) ++ ((bX3 an cy Sn) ++ ((bX2 al cy Sl)))) sz) := by
  refine zOf_ic (by decide) (Nat.le_of_ble_eq_true rfl) ?_
  intro p e s m below meth c ls A H locs hx hb hr hml hown htB hlocks hK hN hC hP hD hS hA hl
  replace hl : lv_has ls 2 [(0, .ref (ah 99))] := hl
  have L28 : ∀ (x1 : Int32) (Sn : zT) (Sl : zT), wpb_X4_way_28 S Q x1 Sn Sl → ∀ (H : Heap) (locs : List Loc), va_P D zCl ((bX4 ah an am af ai aj al ag cy S) ++ ((bX3 an cy Sn) ++ ((bX2 al cy Sl)))) H → va_D A ((bX4 ah an am af ai aj al ag cy S) ++ ((bX3 an cy Sn) ++ ((bX2 al cy Sl)))) → va_S A s.heap H locs → ∀ ls : Array Slot, lv_has ls 2 [(0, .ref (ah 99)), (1, .int x1)] → W p l e rm_X4_way s m ([.ref (ah 99)] : List Value).toArray below meth c H locs 0 0 (MQ below (va_Qi (S := zT × zT) (fun (r : Int32) (u : zT × zT) => Q r (u.1) (u.2)) (fun u t => va_P D zCl ((fun (u : zT × zT) => ((bX4 ah an am af ai aj al ag cy S) ++ ((bX3 an cy (u.1)) ++ ((bX2 al cy (u.2)))))) u) t.heap) A) ([.ref (ah 99)] : List Value).toArray s 0 0 A) (F0 m 28 ls []) := by
    intro x1 Sn Sl h H locs hP hD hS ls hl
    refine lv_aload_n hx hb dX4_way_28 rfl (lv_at hl 0 rfl) ?_
    refine va_get (D := D) (ci := 4) (v := .ref (al 99)) (C := RX4) (T := TX4) (N := 12) hx hb htB ziX4 hown hK hP 0 rfl rfl 6 (by decide) (htB _ zm_149) (fun _ h9 => h9) rfl dX4_way_29 ?_
    refine lv_iconst (v := (0 : Int32)) hx hb dX4_way_32 (by decide) ?_
    refine va_putN (D := D) (ci := 2) (v := .int (0 : Int32)) (ty := .int) (C := RX2) (T := TX2) (N := 5) hx hb htB ziX2 tyX2 tyX2_ok nmX2 hown hK hP hD hS 7 rfl rfl 1 (by decide) (va_Nw.use rfl (hN _ zm_150)) (fun _ h9 => h9) rfl (tyX2_ok 1 (by decide)) rfl rfl (Nat.le_of_ble_eq_true rfl) dX4_way_33 (fun H locs hP hD hS => ?_)
    obtain ⟨Sl_33, eSl_33⟩ : ∃ z : zT, z = (va_up Sl 1 (fun _ => (0 : Int32))) := ⟨_, rfl⟩
    replace h := h Sl_33 eSl_33
    replace hP : va_P D zCl ((bX4 ah an am af ai aj al ag cy S) ++ ((bX3 an cy Sn) ++ ((bX2 al cy Sl_33)))) H := by rw [eSl_33]; exact hP
    replace hD : va_D A ((bX4 ah an am af ai aj al ag cy S) ++ ((bX3 an cy Sn) ++ ((bX2 al cy Sl_33)))) := by rw [eSl_33]; exact hD
    refine lv_iload_n hx hb dX4_way_36 rfl (lv_at hl 1 rfl) ?_
    exact W.iret (v := x1) hx hb hr (fun t ht hW => ⟨⟨_, (Sn, Sl_33), rfl, h, zP_h ht hP⟩, hS.F ht⟩) hS.2.2 dX4_way_37
  refine lv_aload_n hx hb dX4_way_0 rfl (lv_at hl 0 rfl) ?_
  refine va_get (D := D) (ci := 4) (v := .ref (al 99)) (C := RX4) (T := TX4) (N := 12) hx hb htB ziX4 hown hK hP 0 rfl rfl 6 (by decide) (htB _ zm_149) (fun _ h9 => h9) rfl dX4_way_1 ?_
  refine lv_aload_n hx hb dX4_way_4 rfl (lv_at hl 0 rfl) ?_
  refine va_get (D := D) (ci := 4) (v := .ref (an 99)) (C := RX4) (T := TX4) (N := 12) hx hb htB ziX4 hown hK hP 0 rfl rfl 0 (by decide) (htB _ zm_155) (fun _ h9 => h9) rfl dX4_way_5 ?_
  have hPc : va_P D zCl ((bX2 al cy Sl) ++ ((bX3 an cy Sn))) H := hP.sub [7, 8, 9, 4, 5, 6] rfl
  have hDc : va_D A ((bX2 al cy Sl) ++ ((bX3 an cy Sn))) := hD.sub [7, 8, 9, 4, 5, 6] (by decide) rfl
  refine zc_i (ws' := fun u => ((bX4 ah an am af ai aj al ag cy S) ++ ((bX3 an cy Sn) ++ ((bX2 al cy u))))) (va_runV (As := [.ref (an 99)]) (rest := []) ⟨hx, hb, hml, hown, htB⟩ (c_X2_findFault l D cy al an H.size Sn Sl h) (cwV 1 htB (zgV zm_469 zm_471 zm_472 zm_99 zm_470) rfl rfl rfl hd_X2_findFault ⟨Nat.le_of_ble_eq_true rfl, Nat.le_of_ble_eq_true rfl⟩) ⟨zMC_blind, va_recv hK hP (ci := 2) (q0 := 7) rfl rfl, zMC_pre hPc hK hN hDc hS hA hC⟩ rfl rfl hl.1 rfl (lv_room (Nat.le_of_ble_eq_true rfl)) dX4_way_8 ⟨Nat.zero_le _, Nat.zero_le _⟩) hS hA hP hD [7, 8, 9, 4, 5, 6] [0, 1, 2, 3] [0, 1, 2, 3, 7, 8, 9, 4, 5, 6] (by decide) rfl (by decide) (by decide) rfl (fun u => rfl) (fun u => rfl) (fun u => rfl) (fun r8 u H locs h hP hD hS => ?_)
  obtain ⟨Sl_8, eu⟩ : ∃ z, z = u := ⟨_, rfl⟩
  subst eu
  replace hP : va_P D zCl ((bX4 ah an am af ai aj al ag cy S) ++ ((bX3 an cy Sn) ++ ((bX2 al cy Sl_8)))) H := hP
  replace hD : va_D A ((bX4 ah an am af ai aj al ag cy S) ++ ((bX3 an cy Sn) ++ ((bX2 al cy Sl_8)))) := hD
  refine lv_istore_n (lv' := [(1, .int r8), (0, .ref (ah 99))]) hx hb dX4_way_11 rfl hl (by decide) rfl (fun ls hl => ?_)
  refine lv_iload_n hx hb dX4_way_12 rfl (lv_at hl 0 rfl) ?_
  refine lv_if_ne (tgt := 28) hx hb dX4_way_13 (by decide) (fun c13 => ?_) (fun c13 => ?_)
  · replace h := And.right h c13
    exact L28 r8 Sn Sl_8 h H locs hP hD hS ls (lv_sub hl [1, 0] rfl)
  · replace h := And.left h c13
    refine lv_aload_n hx hb dX4_way_16 rfl (lv_at hl 1 rfl) ?_
    refine va_get (D := D) (ci := 4) (v := .ref (al 99)) (C := RX4) (T := TX4) (N := 12) hx hb htB ziX4 hown hK hP 0 rfl rfl 6 (by decide) (htB _ zm_149) (fun _ h9 => h9) rfl dX4_way_17 ?_
    refine lv_aload_n hx hb dX4_way_20 rfl (lv_at hl 1 rfl) ?_
    refine va_get (D := D) (ci := 4) (v := .ref (an 99)) (C := RX4) (T := TX4) (N := 12) hx hb htB ziX4 hown hK hP 0 rfl rfl 0 (by decide) (htB _ zm_155) (fun _ h9 => h9) rfl dX4_way_21 ?_
    have hPc : va_P D zCl ((bX2 al cy Sl_8) ++ ((bX3 an cy Sn))) H := hP.sub [7, 8, 9, 4, 5, 6] rfl
    have hDc : va_D A ((bX2 al cy Sl_8) ++ ((bX3 an cy Sn))) := hD.sub [7, 8, 9, 4, 5, 6] (by decide) rfl
    refine zc_i (ws' := fun u => ((bX4 ah an am af ai aj al ag cy S) ++ ((bX3 an cy (u.2)) ++ ((bX2 al cy (u.1)))))) (va_runV (As := [.ref (an 99)]) (rest := []) ⟨hx, hb, hml, hown, htB⟩ (c_X2_bringInto l D cy al an H.size Sl_8 Sn h) (cwV 1 htB (zgV zm_473 zm_475 zm_476 zm_99 zm_474) rfl rfl rfl hd_X2_bringInto ⟨Nat.le_of_ble_eq_true rfl, Nat.le_of_ble_eq_true rfl⟩) ⟨zMC_blind, va_recv hK hP (ci := 2) (q0 := 7) rfl rfl, zMC_pre hPc hK hN hDc hS hA hC⟩ rfl rfl hl.1 rfl (lv_room (Nat.le_of_ble_eq_true rfl)) dX4_way_24 ⟨Nat.zero_le _, Nat.zero_le _⟩) hS hA hP hD [7, 8, 9, 4, 5, 6] [0, 1, 2, 3] [0, 1, 2, 3, 7, 8, 9, 4, 5, 6] (by decide) rfl (by decide) (by decide) rfl (fun u => rfl) (fun u => rfl) (fun u => rfl) (fun r24 u H locs h hP hD hS => ?_)
    obtain ⟨Sl_24, Sn_24⟩ := u
    replace hP : va_P D zCl ((bX4 ah an am af ai aj al ag cy S) ++ ((bX3 an cy Sn_24) ++ ((bX2 al cy Sl_24)))) H := hP
    replace hD : va_D A ((bX4 ah an am af ai aj al ag cy S) ++ ((bX3 an cy Sn_24) ++ ((bX2 al cy Sl_24)))) := hD
    refine lv_istore_n (lv' := [(1, .int r24), (0, .ref (ah 99))]) hx hb dX4_way_27 rfl hl (by decide) rfl (fun ls hl => ?_)
    exact L28 r24 Sn_24 Sl_24 h H locs hP hD hS ls (lv_sub hl [1, 0] rfl)
set_option maxHeartbeats 4000000 in
set_option maxRecDepth 100000 in
theorem c_X5_set (l : Launch) (D : va_G) (cy : ClassId) (ah : Nat → Nat) (sz : Nat) (i1 : Int32) (i2 : Int32) (S : zT) {Q : Int32 → zT → Prop} (h : wp_X5_set i1 i2 S Q) : Met l yX5_set w_X5_set rm_X5_set (va_Pc [.ref (ah 99), .int i1, .int i2] (zMC D cy (bX5 ah cy S) sz)) (va_Qi (S := zT) (fun (r : Int32) (u : zT) => Q r u) (fun u t => va_P D zCl ((fun (u : zT) => (bX5 ah cy u)) u) t.heap) (va_A (bX5 ah cy S) sz)) 0 0 (va_A (bX5 ah cy S) sz) := by
  refine zOf_ic (by decide) (Nat.le_of_ble_eq_true rfl) ?_
  intro p e s m below meth c ls A H locs hx hb hr hml hown htB hlocks hK hN hC hP hD hS hA hl
  replace hl : lv_has ls 5 [(0, .ref (ah 99)), (1, .int i1), (2, .int i2)] := hl
  refine lv_iload_n hx hb dX5_set_0 rfl (lv_at hl 1 rfl) ?_
  refine lv_iconst (v := (0 : Int32)) hx hb dX5_set_1 (by decide) ?_
  refine lv_iconst (v := (3 : Int32)) hx hb dX5_set_2 (by decide) ?_
  have hPc : va_P D zCl ([] : va_W) H := hP.sub [] rfl
  refine zc_r (va_runS (As := [.int i1, .int (0 : Int32), .int (3 : Int32)]) (rest := []) ⟨hx, hb, hml, hown, htB⟩ (c_X5_isIn l D cy  i1 (0 : Int32) (3 : Int32) h) (cwS 3 htB (zgS zm_275 zm_277 zm_263 zm_276) rfl rfl rfl hd_X5_isIn ⟨Nat.le_of_ble_eq_true rfl, Nat.le_of_ble_eq_true rfl⟩) ⟨zR_blind, zR_pre hPc hK hN⟩ rfl rfl hl.1 rfl (lv_room (Nat.le_of_ble_eq_true rfl)) dX5_set_3 ⟨Nat.zero_le _, Nat.zero_le _⟩) (fun r3 h => ?_)
  refine lv_if_ne (tgt := 16) hx hb dX5_set_6 (by decide) (fun c6 => ?_) (fun c6 => ?_)
  · replace h := And.right h c6
    refine lv_iload_n hx hb dX5_set_16 rfl (lv_at hl 2 rfl) ?_
    obtain ⟨t183_, hz183, ht183⟩ := hC.2.1
    refine va_gets hx hb hz183 hS hown (htB _ zm_477) (fun _ h9 => h9) dX5_set_17 ?_
    refine lv_iload_n hx hb dX5_set_20 rfl (lv_at hl 1 rfl) ?_
    refine va_ti hx hb ht183 hS (And.left h) (v := .int (zLs i1.toNatClampNeg)) rfl dX5_set_21 ?_
    replace h := And.right h
    obtain ⟨t186_, hz186, ht186⟩ := hC.2.2
    refine va_gets hx hb hz186 hS hown (htB _ zm_478) (fun _ h9 => h9) dX5_set_22 ?_
    refine lv_iload_n hx hb dX5_set_25 rfl (lv_at hl 1 rfl) ?_
    refine va_ti hx hb ht186 hS (And.left h) (v := .int (zMo i1.toNatClampNeg)) rfl dX5_set_26 ?_
    replace h := And.right h
    have hPc : va_P D zCl ([] : va_W) H := hP.sub [] rfl
    refine zc_r (va_runS (As := [.int i2, .int (zLs i1.toNatClampNeg), .int (zMo i1.toNatClampNeg)]) (rest := []) ⟨hx, hb, hml, hown, htB⟩ (c_X5_bound l D cy  i2 (zLs i1.toNatClampNeg) (zMo i1.toNatClampNeg) h) (cwS 3 htB (zgS zm_266 zm_268 zm_263 zm_267) rfl rfl rfl hd_X5_bound ⟨Nat.le_of_ble_eq_true rfl, Nat.le_of_ble_eq_true rfl⟩) ⟨zR_blind, zR_pre hPc hK hN⟩ rfl rfl hl.1 rfl (lv_room (Nat.le_of_ble_eq_true rfl)) dX5_set_27 ⟨Nat.zero_le _, Nat.zero_le _⟩) (fun r27 h => ?_)
    refine lv_istore_n (lv' := [(3, .int r27), (0, .ref (ah 99)), (1, .int i1), (2, .int i2)]) hx hb dX5_set_30 rfl hl (by decide) rfl (fun ls hl => ?_)
    refine lv_iload_n hx hb dX5_set_31 rfl (lv_at hl 0 rfl) ?_
    refine lv_if_eq (tgt := 41) hx hb dX5_set_32 (by decide) (fun c32 => ?_) (fun c32 => ?_)
    · replace h := And.left h c32
      refine lv_aload_n hx hb dX5_set_41 rfl (lv_at hl 1 rfl) ?_
      refine va_get (D := D) (ci := 5) (v := .ref (ah 8)) (C := RX5) (T := TX5) (N := 41) hx hb htB ziX5 hown hK hP 0 rfl rfl 8 (by decide) (htB _ zm_307) (fun _ h9 => h9) rfl dX5_set_42 ?_
      refine lv_iload_n hx hb dX5_set_45 rfl (lv_at hl 2 rfl) ?_
      refine va_iald (D := D) hx hb hK hP 9 0 rfl rfl (And.left h) dX5_set_46 ?_
      replace h := And.right h
      refine lv_topi (fun y47 ey47 => ?_)
      replace h := h y47 ey47
      refine lv_istore (lv' := [(4, .int y47), (3, .int r27), (0, .ref (ah 99)), (1, .int i1), (2, .int i2)]) hx hb dX5_set_47 hl (by decide) rfl (fun ls hl => ?_)
      refine lv_aload_n hx hb dX5_set_49 rfl (lv_at hl 2 rfl) ?_
      refine va_get (D := D) (ci := 5) (v := .ref (ah 8)) (C := RX5) (T := TX5) (N := 41) hx hb htB ziX5 hown hK hP 0 rfl rfl 8 (by decide) (htB _ zm_307) (fun _ h9 => h9) rfl dX5_set_50 ?_
      refine lv_iload_n hx hb dX5_set_53 rfl (lv_at hl 3 rfl) ?_
      refine lv_iload_n hx hb dX5_set_54 rfl (lv_at hl 4 rfl) ?_
      refine va_iast (D := D) hx hb hK hP hD hS 9 0 rfl rfl (And.left h) dX5_set_55 (fun H locs hP hD hS => ?_)
      replace h := And.right h
      obtain ⟨S_55, eS_55⟩ : ∃ z : zT, z = (va_up S 8 (upd (S 8) i1.toNatClampNeg i2)) := ⟨_, rfl⟩
      replace h := h S_55 eS_55
      replace hP : va_P D zCl (bX5 ah cy S_55) H := by rw [eS_55]; exact hP
      replace hD : va_D A (bX5 ah cy S_55) := by rw [eS_55]; exact hD
      refine lv_iload hx hb dX5_set_56 (lv_at hl 0 rfl) ?_
      exact W.iret (v := y47) hx hb hr (fun t ht hW => ⟨⟨_, S_55, rfl, h, zP_h ht hP⟩, hS.F ht⟩) hS.2.2 dX5_set_58
    · replace h := And.right h c32
      refine lv_aload_n hx hb dX5_set_35 rfl (lv_at hl 1 rfl) ?_
      refine lv_iload_n hx hb dX5_set_36 rfl (lv_at hl 0 rfl) ?_
      refine zc_if (ws' := fun u => (bX5 ah cy u)) (va_runV (As := [.int r27]) (rest := []) ⟨hx, hb, hml, hown, htB⟩ (c_X5_no l D cy ah H.size r27 S h) (cwV 1 htB (zgV zm_261 zm_264 zm_265 zm_263 zm_262) rfl rfl rfl hd_X5_no ⟨Nat.le_of_ble_eq_true rfl, Nat.le_of_ble_eq_true rfl⟩) ⟨zM_blind, va_recv hK hP (ci := 5) (q0 := 0) rfl rfl, zM_pre hP hK hN hD⟩ rfl rfl hl.1 rfl (lv_room (Nat.le_of_ble_eq_true rfl)) dX5_set_37 ⟨Nat.zero_le _, Nat.zero_le _⟩) hS hA hP hD (fun u => rfl) (fun u => rfl) (fun r37 u H locs h hP hD hS => ?_)
      obtain ⟨S_37, eu⟩ : ∃ z, z = u := ⟨_, rfl⟩
      subst eu
      replace hP : va_P D zCl (bX5 ah cy S_37) H := hP
      replace hD : va_D A (bX5 ah cy S_37) := hD
      exact W.iret (v := r37) hx hb hr (fun t ht hW => ⟨⟨_, S_37, rfl, h, zP_h ht hP⟩, hS.F ht⟩) hS.2.2 dX5_set_40
  · replace h := And.left h c6
    refine lv_aload_n hx hb dX5_set_9 rfl (lv_at hl 0 rfl) ?_
    refine lv_bipush (v := (-2 : Int32)) hx hb dX5_set_10 (by decide) ?_
    refine zc_if (ws' := fun u => (bX5 ah cy u)) (va_runV (As := [.int (-2 : Int32)]) (rest := []) ⟨hx, hb, hml, hown, htB⟩ (c_X5_no l D cy ah H.size (-2 : Int32) S h) (cwV 1 htB (zgV zm_261 zm_264 zm_265 zm_263 zm_262) rfl rfl rfl hd_X5_no ⟨Nat.le_of_ble_eq_true rfl, Nat.le_of_ble_eq_true rfl⟩) ⟨zM_blind, va_recv hK hP (ci := 5) (q0 := 0) rfl rfl, zM_pre hP hK hN hD⟩ rfl rfl hl.1 rfl (lv_room (Nat.le_of_ble_eq_true rfl)) dX5_set_12 ⟨Nat.zero_le _, Nat.zero_le _⟩) hS hA hP hD (fun u => rfl) (fun u => rfl) (fun r12 u H locs h hP hD hS => ?_)
    obtain ⟨S_12, eu⟩ : ∃ z, z = u := ⟨_, rfl⟩
    subst eu
    replace hP : va_P D zCl (bX5 ah cy S_12) H := hP
    replace hD : va_D A (bX5 ah cy S_12) := hD
    exact W.iret (v := r12) hx hb hr (fun t ht hW => ⟨⟨_, S_12, rfl, h, zP_h ht hP⟩, hS.F ht⟩) hS.2.2 dX5_set_15

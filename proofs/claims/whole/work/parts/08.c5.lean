set_option maxHeartbeats 4000000 in
set_option maxRecDepth 100000 in
theorem c_X5_no (l : Launch) (D : va_G) (cy : ClassId) (ah : Nat → Nat) (sz : Nat) (i1 : Int32) (S : zT) {Q : Int32 → zT → Prop} (h : wp_X5_no i1 S Q) : Met l yX5_no w_X5_no rm_X5_no (va_Pc [.ref (ah 99), .int i1] (zM D cy (bX5 ah cy S) sz)) (va_Qi (S := zT) (fun (r : Int32) (u : zT) => Q r u) (fun u t => va_P D zCl ((fun (u : zT) => (bX5 ah cy u)) u) t.heap) (va_A (bX5 ah cy S) sz)) 0 0 (va_A (bX5 ah cy S) sz) := by
  refine zOf_i (by decide) (Nat.le_of_ble_eq_true rfl) ?_
  intro p e s m below meth c ls A H locs hx hb hr hml hown htB hlocks hK hN hP hD hS hA hl
  replace hl : lv_has ls 2 [(0, .ref (ah 99)), (1, .int i1)] := hl
  refine lv_aload_n hx hb dX5_no_0 rfl (lv_at hl 0 rfl) ?_
  refine va_get (D := D) (ci := 5) (v := .ref (ah 0)) (C := RX5) (T := TX5) (N := 41) hx hb htB ziX5 hown hK hP 0 rfl rfl 0 (by decide) (htB _ zm_257) (fun _ h9 => h9) rfl dX5_no_1 ?_
  refine lv_iload_n hx hb dX5_no_4 rfl (lv_at hl 1 rfl) ?_
  refine lv_ineg hx hb dX5_no_5 ?_
  refine lv_dup2_11 hx hb dX5_no_6 rfl rfl ?_
  refine va_iald (D := D) hx hb hK hP 1 0 rfl rfl (And.left h) dX5_no_7 ?_
  replace h := And.right h
  refine lv_iconst (v := (1 : Int32)) hx hb dX5_no_8 (by decide) ?_
  refine lv_iadd hx hb dX5_no_9 ?_
  refine va_iast (D := D) hx hb hK hP hD hS 1 0 rfl rfl (And.left h) dX5_no_10 (fun H locs hP hD hS => ?_)
  replace h := And.right h
  obtain ⟨S_10, eS_10⟩ : ∃ z : zT, z = (va_up S 0 (upd (S 0) (-i1).toNatClampNeg ((S 0 (-i1).toNatClampNeg) + (1 : Int32)))) := ⟨_, rfl⟩
  replace h := h S_10 eS_10
  replace hP : va_P D zCl (bX5 ah cy S_10) H := by rw [eS_10]; exact hP
  replace hD : va_D A (bX5 ah cy S_10) := by rw [eS_10]; exact hD
  refine lv_iload_n hx hb dX5_no_11 rfl (lv_at hl 1 rfl) ?_
  exact W.iret (v := i1) hx hb hr (fun t ht hW => ⟨⟨_, S_10, rfl, h, zP_h ht hP⟩, hS.F ht⟩) hS.2.2 dX5_no_12
set_option maxHeartbeats 4000000 in
set_option maxRecDepth 100000 in
theorem c_X5_isIn (l : Launch) (D : va_G) (cy : ClassId)  (i0 : Int32) (i1 : Int32) (i2 : Int32) {Q : Int32 → Prop} (h : wp_X5_isIn i0 i1 i2 Q) : Met l yX5_isIn w_X5_isIn rm_X5_isIn (va_Pc [.int i0, .int i1, .int i2] (zR D cy ([] : va_W))) (vp_Si Q) 0 0 (fun _ => False) := by
  refine zOf_r (by decide) (Nat.le_of_ble_eq_true rfl) ?_
  intro p e s m below meth c ls hx hb hr hml hown htB hlocks hK hN hP hl
  replace hl : lv_has ls 3 [(0, .int i0), (1, .int i1), (2, .int i2)] := hl
  refine lv_iload_n hx hb dX5_isIn_0 rfl (lv_at hl 0 rfl) ?_
  refine lv_iload_n hx hb dX5_isIn_1 rfl (lv_at hl 1 rfl) ?_
  refine lv_icmp_lt (tgt := 14) hx hb dX5_isIn_2 (by decide) (fun c2 => ?_) (fun c2 => ?_)
  · replace h := And.left h c2
    refine lv_iconst (v := (0 : Int32)) hx hb dX5_isIn_14 (by decide) ?_
    exact W.zret (v := (0 : Int32)) hx hb hr rfl (fun t ht hW => ⟨_, rfl, h, ht⟩) (fun q hq => by cases hq) dX5_isIn_15
  · replace h := And.right h c2
    refine lv_iload_n hx hb dX5_isIn_5 rfl (lv_at hl 0 rfl) ?_
    refine lv_iload_n hx hb dX5_isIn_6 rfl (lv_at hl 2 rfl) ?_
    refine lv_icmp_gt (tgt := 14) hx hb dX5_isIn_7 (by decide) (fun c7 => ?_) (fun c7 => ?_)
    · replace h := And.left h c7
      refine lv_iconst (v := (0 : Int32)) hx hb dX5_isIn_14 (by decide) ?_
      exact W.zret (v := (0 : Int32)) hx hb hr rfl (fun t ht hW => ⟨_, rfl, h, ht⟩) (fun q hq => by cases hq) dX5_isIn_15
    · replace h := And.right h c7
      refine lv_iconst (v := (1 : Int32)) hx hb dX5_isIn_10 (by decide) ?_
      refine lv_goto (tgt := 15) hx hb dX5_isIn_11 (by decide) ?_
      exact W.zret (v := (1 : Int32)) hx hb hr rfl (fun t ht hW => ⟨_, rfl, h, ht⟩) (fun q hq => by cases hq) dX5_isIn_15
set_option maxHeartbeats 4000000 in
set_option maxRecDepth 100000 in
theorem c_X5_bound (l : Launch) (D : va_G) (cy : ClassId)  (i0 : Int32) (i1 : Int32) (i2 : Int32) {Q : Int32 → Prop} (h : wp_X5_bound i0 i1 i2 Q) : Met l yX5_bound w_X5_bound rm_X5_bound (va_Pc [.int i0, .int i1, .int i2] (zR D cy ([] : va_W))) (vp_Si Q) 0 0 (fun _ => False) := by
  refine zOf_r (by decide) (Nat.le_of_ble_eq_true rfl) ?_
  intro p e s m below meth c ls hx hb hr hml hown htB hlocks hK hN hP hl
  replace hl : lv_has ls 3 [(0, .int i0), (1, .int i1), (2, .int i2)] := hl
  refine lv_iload_n hx hb dX5_bound_0 rfl (lv_at hl 0 rfl) ?_
  refine lv_iload_n hx hb dX5_bound_1 rfl (lv_at hl 1 rfl) ?_
  refine lv_icmp_ge (tgt := 10) hx hb dX5_bound_2 (by decide) (fun c2 => ?_) (fun c2 => ?_)
  · replace h := And.left h c2
    refine lv_iload_n hx hb dX5_bound_10 rfl (lv_at hl 0 rfl) ?_
    refine lv_iload_n hx hb dX5_bound_11 rfl (lv_at hl 2 rfl) ?_
    refine lv_icmp_le (tgt := 20) hx hb dX5_bound_12 (by decide) (fun c12 => ?_) (fun c12 => ?_)
    · replace h := And.left h c12
      refine lv_iconst (v := (0 : Int32)) hx hb dX5_bound_20 (by decide) ?_
      exact W.iret (v := (0 : Int32)) hx hb hr (fun t ht hW => ⟨_, rfl, h, ht⟩) (fun q hq => by cases hq) dX5_bound_21
    · replace h := And.right h c12
      refine lv_bipush (v := (-6 : Int32)) hx hb dX5_bound_15 (by decide) ?_
      refine lv_goto (tgt := 21) hx hb dX5_bound_17 (by decide) ?_
      exact W.iret (v := (-6 : Int32)) hx hb hr (fun t ht hW => ⟨_, rfl, h, ht⟩) (fun q hq => by cases hq) dX5_bound_21
  · replace h := And.right h c2
    refine lv_bipush (v := (-4 : Int32)) hx hb dX5_bound_5 (by decide) ?_
    refine lv_goto (tgt := 21) hx hb dX5_bound_7 (by decide) ?_
    exact W.iret (v := (-4 : Int32)) hx hb hr (fun t ht hW => ⟨_, rfl, h, ht⟩) (fun q hq => by cases hq) dX5_bound_21
set_option maxHeartbeats 4000000 in
set_option maxRecDepth 100000 in
theorem c_X5_isWalker (l : Launch) (D : va_G) (cy : ClassId) (ah : Nat → Nat) (S : zT) (i1 : Int32) {Q : Int32 → Prop} (h : wp_X5_isWalker S i1 Q) : Met l yX5_isWalker w_X5_isWalker rm_X5_isWalker (va_Pc [.ref (ah 99), .int i1] (zR D cy (bX5 ah cy S))) (vp_Si Q) 0 0 (fun _ => False) := by
  refine zOf_r (by decide) (Nat.le_of_ble_eq_true rfl) ?_
  intro p e s m below meth c ls hx hb hr hml hown htB hlocks hK hN hP hl
  replace hl : lv_has ls 2 [(0, .ref (ah 99)), (1, .int i1)] := hl
  refine lv_iload_n hx hb dX5_isWalker_0 rfl (lv_at hl 1 rfl) ?_
  refine lv_if_lt (tgt := 16) hx hb dX5_isWalker_1 (by decide) (fun c1 => ?_) (fun c1 => ?_)
  · replace h := And.left h c1
    refine lv_iconst (v := (0 : Int32)) hx hb dX5_isWalker_16 (by decide) ?_
    exact W.zret (v := (0 : Int32)) hx hb hr rfl (fun t ht hW => ⟨_, rfl, h, ht⟩) (fun q hq => by cases hq) dX5_isWalker_17
  · replace h := And.right h c1
    refine lv_iload_n hx hb dX5_isWalker_4 rfl (lv_at hl 1 rfl) ?_
    refine lv_aload_n hx hb dX5_isWalker_5 rfl (lv_at hl 0 rfl) ?_
    refine va_get (D := D) (ci := 5) (v := .int (S 13 0)) (C := RX5) (T := TX5) (N := 41) hx hb htB ziX5 hown hK hP 0 rfl rfl 13 (by decide) (htB _ zm_258) (fun _ h9 => h9) rfl dX5_isWalker_6 ?_
    refine lv_icmp_ge (tgt := 16) hx hb dX5_isWalker_9 (by decide) (fun c9 => ?_) (fun c9 => ?_)
    · replace h := And.left h c9
      refine lv_iconst (v := (0 : Int32)) hx hb dX5_isWalker_16 (by decide) ?_
      exact W.zret (v := (0 : Int32)) hx hb hr rfl (fun t ht hW => ⟨_, rfl, h, ht⟩) (fun q hq => by cases hq) dX5_isWalker_17
    · replace h := And.right h c9
      refine lv_iconst (v := (1 : Int32)) hx hb dX5_isWalker_12 (by decide) ?_
      refine lv_goto (tgt := 17) hx hb dX5_isWalker_13 (by decide) ?_
      exact W.zret (v := (1 : Int32)) hx hb hr rfl (fun t ht hW => ⟨_, rfl, h, ht⟩) (fun q hq => by cases hq) dX5_isWalker_17
set_option maxHeartbeats 4000000 in
set_option maxRecDepth 100000 in
theorem c_X5_letter (l : Launch) (D : va_G) (cy : ClassId) (ah : Nat → Nat) (sz : Nat) (i1 : Int32) (S : zT) {Q : Int32 → zT → Prop} (h : wp_X5_letter i1 S Q) : Met l yX5_letter w_X5_letter rm_X5_letter (va_Pc [.ref (ah 99), .int i1] (zM D cy (bX5 ah cy S) sz)) (va_Qi (S := zT) (fun (r : Int32) (u : zT) => Q r u) (fun u t => va_P D zCl ((fun (u : zT) => (bX5 ah cy u)) u) t.heap) (va_A (bX5 ah cy S) sz)) 0 0 (va_A (bX5 ah cy S) sz) := by
  refine zOf_i (by decide) (Nat.le_of_ble_eq_true rfl) ?_
  intro p e s m below meth c ls A H locs hx hb hr hml hown htB hlocks hK hN hP hD hS hA hl
  replace hl : lv_has ls 3 [(0, .ref (ah 99)), (1, .int i1)] := hl
  have L25 : ∀ (x2 : Int32) (S : zT), wpb_X5_letter_25 i1 Q x2 S → ∀ (H : Heap) (locs : List Loc), va_P D zCl (bX5 ah cy S) H → va_D A (bX5 ah cy S) → va_S A s.heap H locs → ∀ ls : Array Slot, lv_has ls 3 [(0, .ref (ah 99)), (1, .int i1), (2, .int x2)] → W p l e rm_X5_letter s m ([.ref (ah 99), .int i1] : List Value).toArray below meth c H locs 0 0 (MQ below (va_Qi (S := zT) (fun (r : Int32) (u : zT) => Q r u) (fun u t => va_P D zCl ((fun (u : zT) => (bX5 ah cy u)) u) t.heap) A) ([.ref (ah 99), .int i1] : List Value).toArray s 0 0 A) (F0 m 25 ls []) := by
    intro x2 S h H locs hP hD hS ls hl
    refine lv_iload_n hx hb dX5_letter_25 rfl (lv_at hl 2 rfl) ?_
    refine lv_if_eq (tgt := 35) hx hb dX5_letter_26 (by decide) (fun c26 => ?_) (fun c26 => ?_)
    · replace h := And.left h c26
      refine lv_aload_n hx hb dX5_letter_35 rfl (lv_at hl 0 rfl) ?_
      refine va_get (D := D) (ci := 5) (v := .ref (ah 15)) (C := RX5) (T := TX5) (N := 41) hx hb htB ziX5 hown hK hP 0 rfl rfl 15 (by decide) (htB _ zm_259) (fun _ h9 => h9) rfl dX5_letter_36 ?_
      refine lv_aload_n hx hb dX5_letter_39 rfl (lv_at hl 0 rfl) ?_
      refine va_get (D := D) (ci := 5) (v := .int (S 19 0)) (C := RX5) (T := TX5) (N := 41) hx hb htB ziX5 hown hK hP 0 rfl rfl 19 (by decide) (htB _ zm_260) (fun _ h9 => h9) rfl dX5_letter_40 ?_
      refine lv_iload_n hx hb dX5_letter_43 rfl (lv_at hl 1 rfl) ?_
      refine va_iast (D := D) hx hb hK hP hD hS 14 0 rfl rfl (And.left h) dX5_letter_44 (fun H locs hP hD hS => ?_)
      replace h := And.right h
      obtain ⟨S_44, eS_44⟩ : ∃ z : zT, z = (va_up S 15 (upd (S 15) (S 19 0).toNatClampNeg i1)) := ⟨_, rfl⟩
      replace h := h S_44 eS_44
      replace hP : va_P D zCl (bX5 ah cy S_44) H := by rw [eS_44]; exact hP
      replace hD : va_D A (bX5 ah cy S_44) := by rw [eS_44]; exact hD
      refine lv_aload_n hx hb dX5_letter_45 rfl (lv_at hl 0 rfl) ?_
      refine lv_dup hx hb dX5_letter_46 rfl ?_
      refine va_get (D := D) (ci := 5) (v := .int (S_44 19 0)) (C := RX5) (T := TX5) (N := 41) hx hb htB ziX5 hown hK hP 0 rfl rfl 19 (by decide) (htB _ zm_260) (fun _ h9 => h9) rfl dX5_letter_47 ?_
      refine lv_iconst (v := (1 : Int32)) hx hb dX5_letter_50 (by decide) ?_
      refine lv_iadd hx hb dX5_letter_51 ?_
      refine va_put (D := D) (ci := 5) (v := .int ((S_44 19 0) + (1 : Int32))) (ty := .int) (C := RX5) (T := TX5) (N := 41) hx hb htB ziX5 tyX5 tyX5_ok nmX5 hown hK hP hD hS 0 rfl rfl 19 (by decide) (htB _ zm_260) (fun _ h9 => h9) rfl (tyX5_ok 19 (by decide)) rfl rfl (Nat.le_of_ble_eq_true rfl) dX5_letter_52 (fun H locs hP hD hS => ?_)
      obtain ⟨S_52, eS_52⟩ : ∃ z : zT, z = (va_up S_44 19 (fun _ => ((S_44 19 0) + (1 : Int32)))) := ⟨_, rfl⟩
      replace h := h S_52 eS_52
      replace hP : va_P D zCl (bX5 ah cy S_52) H := by rw [eS_52]; exact hP
      replace hD : va_D A (bX5 ah cy S_52) := by rw [eS_52]; exact hD
      refine lv_aload_n hx hb dX5_letter_55 rfl (lv_at hl 0 rfl) ?_
      refine va_get (D := D) (ci := 5) (v := .int (S_52 19 0)) (C := RX5) (T := TX5) (N := 41) hx hb htB ziX5 hown hK hP 0 rfl rfl 19 (by decide) (htB _ zm_260) (fun _ h9 => h9) rfl dX5_letter_56 ?_
      exact W.iret (v := (S_52 19 0)) hx hb hr (fun t ht hW => ⟨⟨_, S_52, rfl, h, zP_h ht hP⟩, hS.F ht⟩) hS.2.2 dX5_letter_59
    · replace h := And.right h c26
      refine lv_aload_n hx hb dX5_letter_29 rfl (lv_at hl 0 rfl) ?_
      refine lv_iload_n hx hb dX5_letter_30 rfl (lv_at hl 2 rfl) ?_
      refine zc_if (ws' := fun u => (bX5 ah cy u)) (va_runV (As := [.int x2]) (rest := []) ⟨hx, hb, hml, hown, htB⟩ (c_X5_no l D cy ah H.size x2 S h) (cwV 1 htB (zgV zm_261 zm_264 zm_265 zm_263 zm_262) rfl rfl rfl hd_X5_no ⟨Nat.le_of_ble_eq_true rfl, Nat.le_of_ble_eq_true rfl⟩) ⟨zM_blind, va_recv hK hP (ci := 5) (q0 := 0) rfl rfl, zM_pre hP hK hN hD⟩ rfl rfl hl.1 rfl (lv_room (Nat.le_of_ble_eq_true rfl)) dX5_letter_31 ⟨Nat.zero_le _, Nat.zero_le _⟩) hS hA hP hD (fun u => rfl) (fun u => rfl) (fun r31 u H locs h hP hD hS => ?_)
      obtain ⟨S_31, eu⟩ : ∃ z, z = u := ⟨_, rfl⟩
      subst eu
      replace hP : va_P D zCl (bX5 ah cy S_31) H := hP
      replace hD : va_D A (bX5 ah cy S_31) := hD
      exact W.iret (v := r31) hx hb hr (fun t ht hW => ⟨⟨_, S_31, rfl, h, zP_h ht hP⟩, hS.F ht⟩) hS.2.2 dX5_letter_34
  refine lv_iload_n hx hb dX5_letter_0 rfl (lv_at hl 1 rfl) ?_
  refine lv_iconst (v := (0 : Int32)) hx hb dX5_letter_1 (by decide) ?_
  refine lv_sipush (v := (255 : Int32)) hx hb dX5_letter_2 (by decide) ?_
  have hPc : va_P D zCl ([] : va_W) H := hP.sub [] rfl
  refine zc_r (va_runS (As := [.int i1, .int (0 : Int32), .int (255 : Int32)]) (rest := []) ⟨hx, hb, hml, hown, htB⟩ (c_X5_bound l D cy  i1 (0 : Int32) (255 : Int32) h) (cwS 3 htB (zgS zm_266 zm_268 zm_263 zm_267) rfl rfl rfl hd_X5_bound ⟨Nat.le_of_ble_eq_true rfl, Nat.le_of_ble_eq_true rfl⟩) ⟨zR_blind, zR_pre hPc hK hN⟩ rfl rfl hl.1 rfl (lv_room (Nat.le_of_ble_eq_true rfl)) dX5_letter_5 ⟨Nat.zero_le _, Nat.zero_le _⟩) (fun r5 h => ?_)
  refine lv_istore_n (lv' := [(2, .int r5), (0, .ref (ah 99)), (1, .int i1)]) hx hb dX5_letter_8 rfl hl (by decide) rfl (fun ls hl => ?_)
  refine lv_iload_n hx hb dX5_letter_9 rfl (lv_at hl 0 rfl) ?_
  refine lv_if_ne (tgt := 25) hx hb dX5_letter_10 (by decide) (fun c10 => ?_) (fun c10 => ?_)
  · replace h := And.right h c10
    exact L25 r5 S h H locs hP hD hS ls (lv_sub hl [1, 2, 0] rfl)
  · replace h := And.left h c10
    refine lv_aload_n hx hb dX5_letter_13 rfl (lv_at hl 1 rfl) ?_
    refine va_get (D := D) (ci := 5) (v := .int (S 19 0)) (C := RX5) (T := TX5) (N := 41) hx hb htB ziX5 hown hK hP 0 rfl rfl 19 (by decide) (htB _ zm_260) (fun _ h9 => h9) rfl dX5_letter_14 ?_
    refine lv_bipush (v := (80 : Int32)) hx hb dX5_letter_17 (by decide) ?_
    refine lv_icmp_ne (tgt := 25) hx hb dX5_letter_19 (by decide) (fun c19 => ?_) (fun c19 => ?_)
    · replace h := And.right h c19
      exact L25 r5 S h H locs hP hD hS ls (lv_sub hl [1, 2, 0] rfl)
    · replace h := And.left h c19
      refine lv_bipush (v := (-6 : Int32)) hx hb dX5_letter_22 (by decide) ?_
      refine lv_istore_n (lv' := [(2, .int (-6 : Int32)), (0, .ref (ah 99)), (1, .int i1)]) hx hb dX5_letter_24 rfl hl (by decide) rfl (fun ls hl => ?_)
      exact L25 (-6 : Int32) S h H locs hP hD hS ls (lv_sub hl [1, 2, 0] rfl)
set_option maxHeartbeats 4000000 in
set_option maxRecDepth 100000 in
theorem c_X5_next (l : Launch) (D : va_G) (cy : ClassId) (ah : Nat → Nat) (S : zT) {Q : Int32 → Prop} (h : wp_X5_next S Q) : Met l yX5_next w_X5_next rm_X5_next (va_Pc [.ref (ah 99)] (zR D cy (bX5 ah cy S))) (vp_Si Q) 0 0 (fun _ => False) := by
  refine zOf_r (by decide) (Nat.le_of_ble_eq_true rfl) ?_
  intro p e s m below meth c ls hx hb hr hml hown htB hlocks hK hN hP hl
  replace hl : lv_has ls 1 [(0, .ref (ah 99))] := hl
  refine lv_aload_n hx hb dX5_next_0 rfl (lv_at hl 0 rfl) ?_
  refine va_get (D := D) (ci := 5) (v := .int (S 20 0)) (C := RX5) (T := TX5) (N := 41) hx hb htB ziX5 hown hK hP 0 rfl rfl 20 (by decide) (htB _ zm_269) (fun _ h9 => h9) rfl dX5_next_1 ?_
  refine lv_aload_n hx hb dX5_next_4 rfl (lv_at hl 0 rfl) ?_
  refine va_get (D := D) (ci := 5) (v := .int (S 19 0)) (C := RX5) (T := TX5) (N := 41) hx hb htB ziX5 hown hK hP 0 rfl rfl 19 (by decide) (htB _ zm_260) (fun _ h9 => h9) rfl dX5_next_5 ?_
  refine lv_icmp_ge (tgt := 23) hx hb dX5_next_8 (by decide) (fun c8 => ?_) (fun c8 => ?_)
  · replace h := And.left h c8
    refine lv_iconst (v := (-1 : Int32)) hx hb dX5_next_23 (by decide) ?_
    exact W.iret (v := (-1 : Int32)) hx hb hr (fun t ht hW => ⟨_, rfl, h, ht⟩) (fun q hq => by cases hq) dX5_next_24
  · replace h := And.right h c8
    refine lv_aload_n hx hb dX5_next_11 rfl (lv_at hl 0 rfl) ?_
    refine va_get (D := D) (ci := 5) (v := .ref (ah 15)) (C := RX5) (T := TX5) (N := 41) hx hb htB ziX5 hown hK hP 0 rfl rfl 15 (by decide) (htB _ zm_259) (fun _ h9 => h9) rfl dX5_next_12 ?_
    refine lv_aload_n hx hb dX5_next_15 rfl (lv_at hl 0 rfl) ?_
    refine va_get (D := D) (ci := 5) (v := .int (S 20 0)) (C := RX5) (T := TX5) (N := 41) hx hb htB ziX5 hown hK hP 0 rfl rfl 20 (by decide) (htB _ zm_269) (fun _ h9 => h9) rfl dX5_next_16 ?_
    refine va_iald (D := D) hx hb hK hP 14 0 rfl rfl (And.left h) dX5_next_19 ?_
    replace h := And.right h
    refine lv_goto (tgt := 24) hx hb dX5_next_20 (by decide) ?_
    exact W.iret (v := (S 15 (S 20 0).toNatClampNeg)) hx hb hr (fun t ht hW => ⟨_, rfl, h, ht⟩) (fun q hq => by cases hq) dX5_next_24
set_option maxHeartbeats 4000000 in
set_option maxRecDepth 100000 in
theorem c_X5_isNext (l : Launch) (D : va_G) (cy : ClassId) (ah : Nat → Nat) (sz : Nat) (i1 : Int32) (S : zT) {Q : Int32 → zT → Prop} (h : wp_X5_isNext i1 S Q) : Met l yX5_isNext w_X5_isNext rm_X5_isNext (va_Pc [.ref (ah 99), .int i1] (zM D cy (bX5 ah cy S) sz)) (va_Qi (S := zT) (fun (r : Int32) (u : zT) => Q r u) (fun u t => va_P D zCl ((fun (u : zT) => (bX5 ah cy u)) u) t.heap) (va_A (bX5 ah cy S) sz)) 0 0 (va_A (bX5 ah cy S) sz) := by
  refine zOf_i (by decide) (Nat.le_of_ble_eq_true rfl) ?_
  intro p e s m below meth c ls A H locs hx hb hr hml hown htB hlocks hK hN hP hD hS hA hl
  replace hl : lv_has ls 2 [(0, .ref (ah 99)), (1, .int i1)] := hl
  refine lv_aload_n hx hb dX5_isNext_0 rfl (lv_at hl 0 rfl) ?_
  refine zc_r (va_runV (As := []) (rest := []) ⟨hx, hb, hml, hown, htB⟩ (c_X5_next l D cy ah S h) (cwV 0 htB (zgV zm_270 zm_272 zm_273 zm_263 zm_271) rfl rfl rfl hd_X5_next ⟨Nat.le_of_ble_eq_true rfl, Nat.le_of_ble_eq_true rfl⟩) ⟨zR_blind, va_recv hK hP (ci := 5) (q0 := 0) rfl rfl, zR_pre hP hK hN⟩ rfl rfl hl.1 rfl (lv_room (Nat.le_of_ble_eq_true rfl)) dX5_isNext_1 ⟨Nat.zero_le _, Nat.zero_le _⟩) (fun r1 h => ?_)
  refine lv_iload_n hx hb dX5_isNext_4 rfl (lv_at hl 1 rfl) ?_
  refine lv_icmp_eq (tgt := 10) hx hb dX5_isNext_5 (by decide) (fun c5 => ?_) (fun c5 => ?_)
  · replace h := And.left h c5
    refine lv_aload_n hx hb dX5_isNext_10 rfl (lv_at hl 0 rfl) ?_
    refine lv_dup hx hb dX5_isNext_11 rfl ?_
    refine va_get (D := D) (ci := 5) (v := .int (S 20 0)) (C := RX5) (T := TX5) (N := 41) hx hb htB ziX5 hown hK hP 0 rfl rfl 20 (by decide) (htB _ zm_269) (fun _ h9 => h9) rfl dX5_isNext_12 ?_
    refine lv_iconst (v := (1 : Int32)) hx hb dX5_isNext_15 (by decide) ?_
    refine lv_iadd hx hb dX5_isNext_16 ?_
    refine va_put (D := D) (ci := 5) (v := .int ((S 20 0) + (1 : Int32))) (ty := .int) (C := RX5) (T := TX5) (N := 41) hx hb htB ziX5 tyX5 tyX5_ok nmX5 hown hK hP hD hS 0 rfl rfl 20 (by decide) (htB _ zm_269) (fun _ h9 => h9) rfl (tyX5_ok 20 (by decide)) rfl rfl (Nat.le_of_ble_eq_true rfl) dX5_isNext_17 (fun H locs hP hD hS => ?_)
    obtain ⟨S_17, eS_17⟩ : ∃ z : zT, z = (va_up S 20 (fun _ => ((S 20 0) + (1 : Int32)))) := ⟨_, rfl⟩
    replace h := h S_17 eS_17
    replace hP : va_P D zCl (bX5 ah cy S_17) H := by rw [eS_17]; exact hP
    replace hD : va_D A (bX5 ah cy S_17) := by rw [eS_17]; exact hD
    refine lv_iconst (v := (1 : Int32)) hx hb dX5_isNext_20 (by decide) ?_
    exact W.zret (v := (1 : Int32)) hx hb hr rfl (fun t ht hW => ⟨⟨_, S_17, rfl, h, zP_h ht hP⟩, hS.F ht⟩) hS.2.2 dX5_isNext_21
  · replace h := And.right h c5
    refine lv_iconst (v := (0 : Int32)) hx hb dX5_isNext_8 (by decide) ?_
    exact W.zret (v := (0 : Int32)) hx hb hr rfl (fun t ht hW => ⟨⟨_, S, rfl, h, zP_h ht hP⟩, hS.F ht⟩) hS.2.2 dX5_isNext_9
set_option maxHeartbeats 4000000 in
set_option maxRecDepth 100000 in
theorem c_X5_reads (l : Launch) (D : va_G) (cy : ClassId) (ah : Nat → Nat) (sz : Nat) (i1 : Int32) (i2 : Int32) (S : zT) {Q : Int32 → zT → Prop} (h : wp_X5_reads i1 i2 S Q) : Met l yX5_reads w_X5_reads rm_X5_reads (va_Pc [.ref (ah 99), .int i1, .int i2] (zM D cy (bX5 ah cy S) sz)) (va_Qi (S := zT) (fun (r : Int32) (u : zT) => Q r u) (fun u t => va_P D zCl ((fun (u : zT) => (bX5 ah cy u)) u) t.heap) (va_A (bX5 ah cy S) sz)) 0 0 (va_A (bX5 ah cy S) sz) := by
  refine zOf_i (by decide) (Nat.le_of_ble_eq_true rfl) ?_
  intro p e s m below meth c ls A H locs hx hb hr hml hown htB hlocks hK hN hP hD hS hA hl
  replace hl : lv_has ls 5 [(0, .ref (ah 99)), (1, .int i1), (2, .int i2)] := hl
  have L70 : ∀ (x3 : Int32) (S : zT), wpb_X5_reads_70 i1 i2 Q x3 S → ∀ (H : Heap) (locs : List Loc), va_P D zCl (bX5 ah cy S) H → va_D A (bX5 ah cy S) → va_S A s.heap H locs → ∀ ls : Array Slot, lv_has ls 5 [(0, .ref (ah 99)), (1, .int i1), (3, .int x3)] → W p l e rm_X5_reads s m ([.ref (ah 99), .int i1, .int i2] : List Value).toArray below meth c H locs 0 0 (MQ below (va_Qi (S := zT) (fun (r : Int32) (u : zT) => Q r u) (fun u t => va_P D zCl ((fun (u : zT) => (bX5 ah cy u)) u) t.heap) A) ([.ref (ah 99), .int i1, .int i2] : List Value).toArray s 0 0 A) (F0 m 70 ls []) := by
    intro x3 S h H locs hP hD hS ls hl
    refine lv_aload_n hx hb dX5_reads_70 rfl (lv_at hl 0 rfl) ?_
    refine va_get (D := D) (ci := 5) (v := .ref (ah 18)) (C := RX5) (T := TX5) (N := 41) hx hb htB ziX5 hown hK hP 0 rfl rfl 18 (by decide) (htB _ zm_274) (fun _ h9 => h9) rfl dX5_reads_71 ?_
    refine lv_iload_n hx hb dX5_reads_74 rfl (lv_at hl 1 rfl) ?_
    refine lv_iload_n hx hb dX5_reads_75 rfl (lv_at hl 2 rfl) ?_
    refine va_iast (D := D) hx hb hK hP hD hS 17 0 rfl rfl (And.left h) dX5_reads_76 (fun H locs hP hD hS => ?_)
    replace h := And.right h
    obtain ⟨S_76, eS_76⟩ : ∃ z : zT, z = (va_up S 18 (upd (S 18) i1.toNatClampNeg x3)) := ⟨_, rfl⟩
    replace h := h S_76 eS_76
    replace hP : va_P D zCl (bX5 ah cy S_76) H := by rw [eS_76]; exact hP
    replace hD : va_D A (bX5 ah cy S_76) := by rw [eS_76]; exact hD
    refine lv_iconst (v := (1 : Int32)) hx hb dX5_reads_77 (by decide) ?_
    exact W.zret (v := (1 : Int32)) hx hb hr rfl (fun t ht hW => ⟨⟨_, S_76, rfl, h, zP_h ht hP⟩, hS.F ht⟩) hS.2.2 dX5_reads_78
  have L21 : ∀ (k21 : Nat) (x3 : Int32) (x4 : Int32) (S : zT), wpl_X5_reads_21 i1 i2 Q k21 x3 x4 S → ∀ (H : Heap) (locs : List Loc), va_P D zCl (bX5 ah cy S) H → va_D A (bX5 ah cy S) → va_S A s.heap H locs → ∀ ls : Array Slot, lv_has ls 5 [(0, .ref (ah 99)), (1, .int i1), (2, .int i2), (3, .int x3), (4, .int x4)] → W p l e rm_X5_reads s m ([.ref (ah 99), .int i1, .int i2] : List Value).toArray below meth c H locs 0 0 (MQ below (va_Qi (S := zT) (fun (r : Int32) (u : zT) => Q r u) (fun u t => va_P D zCl ((fun (u : zT) => (bX5 ah cy u)) u) t.heap) A) ([.ref (ah 99), .int i1, .int i2] : List Value).toArray s 0 0 A) (F0 m 21 ls []) := by
    intro k21
    induction k21 with
    | zero => exact fun x3 x4 S h => False.elim h
    | succ k21 ih21 =>
      intro x3 x4 S h H locs hP hD hS ls hl
      refine lv_iload hx hb dX5_reads_21 (lv_at hl 4 rfl) ?_
      refine lv_iload_n hx hb dX5_reads_23 rfl (lv_at hl 2 rfl) ?_
      refine lv_icmp_ge (tgt := 70) hx hb dX5_reads_24 (by decide) (fun c24 => ?_) (fun c24 => ?_)
      · replace h := And.left h c24
        exact L70 x3 S h H locs hP hD hS ls (lv_sub hl [0, 1, 3] rfl)
      · replace h := And.right h c24
        refine lv_aload_n hx hb dX5_reads_27 rfl (lv_at hl 0 rfl) ?_
        refine zc_r (va_runV (As := []) (rest := []) ⟨hx, hb, hml, hown, htB⟩ (c_X5_next l D cy ah S h) (cwV 0 htB (zgV zm_270 zm_272 zm_273 zm_263 zm_271) rfl rfl rfl hd_X5_next ⟨Nat.le_of_ble_eq_true rfl, Nat.le_of_ble_eq_true rfl⟩) ⟨zR_blind, va_recv hK hP (ci := 5) (q0 := 0) rfl rfl, zR_pre hP hK hN⟩ rfl rfl hl.1 rfl (lv_room (Nat.le_of_ble_eq_true rfl)) dX5_reads_28 ⟨Nat.zero_le _, Nat.zero_le _⟩) (fun r28 h => ?_)
        refine lv_bipush (v := (48 : Int32)) hx hb dX5_reads_31 (by decide) ?_
        refine lv_bipush (v := (57 : Int32)) hx hb dX5_reads_33 (by decide) ?_
        have hPc : va_P D zCl ([] : va_W) H := hP.sub [] rfl
        refine zc_r (va_runS (As := [.int r28, .int (48 : Int32), .int (57 : Int32)]) (rest := []) ⟨hx, hb, hml, hown, htB⟩ (c_X5_isIn l D cy  r28 (48 : Int32) (57 : Int32) h) (cwS 3 htB (zgS zm_275 zm_277 zm_263 zm_276) rfl rfl rfl hd_X5_isIn ⟨Nat.le_of_ble_eq_true rfl, Nat.le_of_ble_eq_true rfl⟩) ⟨zR_blind, zR_pre hPc hK hN⟩ rfl rfl hl.1 rfl (lv_room (Nat.le_of_ble_eq_true rfl)) dX5_reads_35 ⟨Nat.zero_le _, Nat.zero_le _⟩) (fun r35 h => ?_)
        refine lv_if_eq (tgt := 70) hx hb dX5_reads_38 (by decide) (fun c38 => ?_) (fun c38 => ?_)
        · replace h := And.left h c38
          exact L70 x3 S h H locs hP hD hS ls (lv_sub hl [0, 1, 3] rfl)
        · replace h := And.right h c38
          refine lv_bipush (v := (10 : Int32)) hx hb dX5_reads_41 (by decide) ?_
          refine lv_iload_n hx hb dX5_reads_43 rfl (lv_at hl 3 rfl) ?_
          refine lv_imul hx hb dX5_reads_44 ?_
          refine lv_aload_n hx hb dX5_reads_45 rfl (lv_at hl 0 rfl) ?_
          refine zc_r (va_runV (As := []) (rest := [.int ((10 : Int32) * x3)]) ⟨hx, hb, hml, hown, htB⟩ (c_X5_next l D cy ah S h) (cwV 0 htB (zgV zm_270 zm_272 zm_273 zm_263 zm_271) rfl rfl rfl hd_X5_next ⟨Nat.le_of_ble_eq_true rfl, Nat.le_of_ble_eq_true rfl⟩) ⟨zR_blind, va_recv hK hP (ci := 5) (q0 := 0) rfl rfl, zR_pre hP hK hN⟩ rfl rfl hl.1 rfl (lv_room (Nat.le_of_ble_eq_true rfl)) dX5_reads_46 ⟨Nat.zero_le _, Nat.zero_le _⟩) (fun r46 h => ?_)
          refine lv_iadd hx hb dX5_reads_49 ?_
          refine lv_bipush (v := (48 : Int32)) hx hb dX5_reads_50 (by decide) ?_
          refine lv_isub hx hb dX5_reads_52 ?_
          refine lv_topi (fun y53 ey53 => ?_)
          replace h := h y53 ey53
          refine lv_istore_n (lv' := [(3, .int y53), (0, .ref (ah 99)), (1, .int i1), (2, .int i2), (4, .int x4)]) hx hb dX5_reads_53 rfl hl (by decide) rfl (fun ls hl => ?_)
          refine lv_aload_n hx hb dX5_reads_54 rfl (lv_at hl 1 rfl) ?_
          refine lv_dup hx hb dX5_reads_55 rfl ?_
          refine va_get (D := D) (ci := 5) (v := .int (S 20 0)) (C := RX5) (T := TX5) (N := 41) hx hb htB ziX5 hown hK hP 0 rfl rfl 20 (by decide) (htB _ zm_269) (fun _ h9 => h9) rfl dX5_reads_56 ?_
          refine lv_iconst (v := (1 : Int32)) hx hb dX5_reads_59 (by decide) ?_
          refine lv_iadd hx hb dX5_reads_60 ?_
          refine va_put (D := D) (ci := 5) (v := .int ((S 20 0) + (1 : Int32))) (ty := .int) (C := RX5) (T := TX5) (N := 41) hx hb htB ziX5 tyX5 tyX5_ok nmX5 hown hK hP hD hS 0 rfl rfl 20 (by decide) (htB _ zm_269) (fun _ h9 => h9) rfl (tyX5_ok 20 (by decide)) rfl rfl (Nat.le_of_ble_eq_true rfl) dX5_reads_61 (fun H locs hP hD hS => ?_)
          obtain ⟨S_61, eS_61⟩ : ∃ z : zT, z = (va_up S 20 (fun _ => ((S 20 0) + (1 : Int32)))) := ⟨_, rfl⟩
          replace h := h S_61 eS_61
          replace hP : va_P D zCl (bX5 ah cy S_61) H := by rw [eS_61]; exact hP
          replace hD : va_D A (bX5 ah cy S_61) := by rw [eS_61]; exact hD
          obtain ⟨y64, ey64⟩ : ∃ z : Int32, z = (x4 + (1 : Int32)) := ⟨_, rfl⟩
          replace h := h y64 ey64
          refine lv_iinc (v := y64) (lv' := [(4, .int y64), (3, .int y53), (0, .ref (ah 99)), (1, .int i1), (2, .int i2)]) hx hb dX5_reads_64 hl (k := 4) rfl (by rw [ey64]; rfl) (by decide) rfl (fun ls hl => ?_)
          refine lv_goto (tgt := 21) hx hb dX5_reads_67 (by decide) ?_
          exact ih21 y53 y64 S_61 h H locs hP hD hS ls (lv_sub hl [2, 3, 4, 1, 0] rfl)
  refine lv_aload_n hx hb dX5_reads_0 rfl (lv_at hl 0 rfl) ?_
  refine zc_r (va_runV (As := []) (rest := []) ⟨hx, hb, hml, hown, htB⟩ (c_X5_next l D cy ah S h) (cwV 0 htB (zgV zm_270 zm_272 zm_273 zm_263 zm_271) rfl rfl rfl hd_X5_next ⟨Nat.le_of_ble_eq_true rfl, Nat.le_of_ble_eq_true rfl⟩) ⟨zR_blind, va_recv hK hP (ci := 5) (q0 := 0) rfl rfl, zR_pre hP hK hN⟩ rfl rfl hl.1 rfl (lv_room (Nat.le_of_ble_eq_true rfl)) dX5_reads_1 ⟨Nat.zero_le _, Nat.zero_le _⟩) (fun r1 h => ?_)
  refine lv_bipush (v := (48 : Int32)) hx hb dX5_reads_4 (by decide) ?_
  refine lv_bipush (v := (57 : Int32)) hx hb dX5_reads_6 (by decide) ?_
  have hPc : va_P D zCl ([] : va_W) H := hP.sub [] rfl
  refine zc_r (va_runS (As := [.int r1, .int (48 : Int32), .int (57 : Int32)]) (rest := []) ⟨hx, hb, hml, hown, htB⟩ (c_X5_isIn l D cy  r1 (48 : Int32) (57 : Int32) h) (cwS 3 htB (zgS zm_275 zm_277 zm_263 zm_276) rfl rfl rfl hd_X5_isIn ⟨Nat.le_of_ble_eq_true rfl, Nat.le_of_ble_eq_true rfl⟩) ⟨zR_blind, zR_pre hPc hK hN⟩ rfl rfl hl.1 rfl (lv_room (Nat.le_of_ble_eq_true rfl)) dX5_reads_8 ⟨Nat.zero_le _, Nat.zero_le _⟩) (fun r8 h => ?_)
  refine lv_if_ne (tgt := 16) hx hb dX5_reads_11 (by decide) (fun c11 => ?_) (fun c11 => ?_)
  · replace h := And.right h c11
    refine lv_iconst (v := (0 : Int32)) hx hb dX5_reads_16 (by decide) ?_
    refine lv_istore_n (lv' := [(3, .int (0 : Int32)), (0, .ref (ah 99)), (1, .int i1), (2, .int i2)]) hx hb dX5_reads_17 rfl hl (by decide) rfl (fun ls hl => ?_)
    refine lv_iconst (v := (0 : Int32)) hx hb dX5_reads_18 (by decide) ?_
    refine lv_istore (lv' := [(4, .int (0 : Int32)), (3, .int (0 : Int32)), (0, .ref (ah 99)), (1, .int i1), (2, .int i2)]) hx hb dX5_reads_19 hl (by decide) rfl (fun ls hl => ?_)
    obtain ⟨nn, h⟩ := h
    exact L21 nn (0 : Int32) (0 : Int32) S h H locs hP hD hS ls (lv_sub hl [2, 3, 4, 1, 0] rfl)
  · replace h := And.left h c11
    refine lv_iconst (v := (0 : Int32)) hx hb dX5_reads_14 (by decide) ?_
    exact W.zret (v := (0 : Int32)) hx hb hr rfl (fun t ht hW => ⟨⟨_, S, rfl, h, zP_h ht hP⟩, hS.F ht⟩) hS.2.2 dX5_reads_15
set_option maxHeartbeats 4000000 in
set_option maxRecDepth 100000 in
theorem c_X5_readsOnes (l : Launch) (D : va_G) (cy : ClassId) (ah : Nat → Nat) (sz : Nat) (i1 : Int32) (i2 : Int32) (S : zT) {Q : Int32 → zT → Prop} (h : wp_X5_readsOnes i1 i2 S Q) : Met l yX5_readsOnes w_X5_readsOnes rm_X5_readsOnes (va_Pc [.ref (ah 99), .int i1, .int i2] (zM D cy (bX5 ah cy S) sz)) (va_Qi (S := zT) (fun (r : Int32) (u : zT) => Q r u) (fun u t => va_P D zCl ((fun (u : zT) => (bX5 ah cy u)) u) t.heap) (va_A (bX5 ah cy S) sz)) 0 0 (va_A (bX5 ah cy S) sz) := by
  refine zOf_i (by decide) (Nat.le_of_ble_eq_true rfl) ?_
  intro p e s m below meth c ls A H locs hx hb hr hml hown htB hlocks hK hN hP hD hS hA hl
  replace hl : lv_has ls 4 [(0, .ref (ah 99)), (1, .int i1), (2, .int i2)] := hl
  have L2 : ∀ (k2 : Nat) (x3 : Int32) (S : zT), wpl_X5_readsOnes_2 i1 i2 Q k2 x3 S → ∀ (H : Heap) (locs : List Loc), va_P D zCl (bX5 ah cy S) H → va_D A (bX5 ah cy S) → va_S A s.heap H locs → ∀ ls : Array Slot, lv_has ls 4 [(0, .ref (ah 99)), (1, .int i1), (2, .int i2), (3, .int x3)] → W p l e rm_X5_readsOnes s m ([.ref (ah 99), .int i1, .int i2] : List Value).toArray below meth c H locs 0 0 (MQ below (va_Qi (S := zT) (fun (r : Int32) (u : zT) => Q r u) (fun u t => va_P D zCl ((fun (u : zT) => (bX5 ah cy u)) u) t.heap) A) ([.ref (ah 99), .int i1, .int i2] : List Value).toArray s 0 0 A) (F0 m 2 ls []) := by
    intro k2
    induction k2 with
    | zero => exact fun x3 S h => False.elim h
    | succ k2 ih2 =>
      intro x3 S h H locs hP hD hS ls hl
      refine lv_iload_n hx hb dX5_readsOnes_2 rfl (lv_at hl 3 rfl) ?_
      refine lv_iload_n hx hb dX5_readsOnes_3 rfl (lv_at hl 2 rfl) ?_
      refine lv_icmp_ge (tgt := 26) hx hb dX5_readsOnes_4 (by decide) (fun c4 => ?_) (fun c4 => ?_)
      · replace h := And.left h c4
        refine lv_iconst (v := (1 : Int32)) hx hb dX5_readsOnes_26 (by decide) ?_
        exact W.zret (v := (1 : Int32)) hx hb hr rfl (fun t ht hW => ⟨⟨_, S, rfl, h, zP_h ht hP⟩, hS.F ht⟩) hS.2.2 dX5_readsOnes_27
      · replace h := And.right h c4
        refine lv_aload_n hx hb dX5_readsOnes_7 rfl (lv_at hl 0 rfl) ?_
        refine lv_iload_n hx hb dX5_readsOnes_8 rfl (lv_at hl 1 rfl) ?_
        refine lv_iload_n hx hb dX5_readsOnes_9 rfl (lv_at hl 3 rfl) ?_
        refine lv_iadd hx hb dX5_readsOnes_10 ?_
        refine lv_iconst (v := (1 : Int32)) hx hb dX5_readsOnes_11 (by decide) ?_
        refine zc_if (ws' := fun u => (bX5 ah cy u)) (va_runV (As := [.int (i1 + x3), .int (1 : Int32)]) (rest := []) ⟨hx, hb, hml, hown, htB⟩ (c_X5_reads l D cy ah H.size (i1 + x3) (1 : Int32) S h) (cwV 2 htB (zgV zm_278 zm_280 zm_281 zm_263 zm_279) rfl rfl rfl hd_X5_reads ⟨Nat.le_of_ble_eq_true rfl, Nat.le_of_ble_eq_true rfl⟩) ⟨zM_blind, va_recv hK hP (ci := 5) (q0 := 0) rfl rfl, zM_pre hP hK hN hD⟩ rfl rfl hl.1 rfl (lv_room (Nat.le_of_ble_eq_true rfl)) dX5_readsOnes_12 ⟨Nat.zero_le _, Nat.zero_le _⟩) hS hA hP hD (fun u => rfl) (fun u => rfl) (fun r12 u H locs h hP hD hS => ?_)
        obtain ⟨S_12, eu⟩ : ∃ z, z = u := ⟨_, rfl⟩
        subst eu
        replace hP : va_P D zCl (bX5 ah cy S_12) H := hP
        replace hD : va_D A (bX5 ah cy S_12) := hD
        refine lv_if_ne (tgt := 20) hx hb dX5_readsOnes_15 (by decide) (fun c15 => ?_) (fun c15 => ?_)
        · replace h := And.right h c15
          obtain ⟨y20, ey20⟩ : ∃ z : Int32, z = (x3 + (1 : Int32)) := ⟨_, rfl⟩
          replace h := h y20 ey20
          refine lv_iinc (v := y20) (lv' := [(3, .int y20), (0, .ref (ah 99)), (1, .int i1), (2, .int i2)]) hx hb dX5_readsOnes_20 hl (k := 3) rfl (by rw [ey20]; rfl) (by decide) rfl (fun ls hl => ?_)
          refine lv_goto (tgt := 2) hx hb dX5_readsOnes_23 (by decide) ?_
          exact ih2 y20 S_12 h H locs hP hD hS ls (lv_sub hl [1, 2, 3, 0] rfl)
        · replace h := And.left h c15
          refine lv_iconst (v := (0 : Int32)) hx hb dX5_readsOnes_18 (by decide) ?_
          exact W.zret (v := (0 : Int32)) hx hb hr rfl (fun t ht hW => ⟨⟨_, S_12, rfl, h, zP_h ht hP⟩, hS.F ht⟩) hS.2.2 dX5_readsOnes_19
  refine lv_iconst (v := (0 : Int32)) hx hb dX5_readsOnes_0 (by decide) ?_
  refine lv_istore_n (lv' := [(3, .int (0 : Int32)), (0, .ref (ah 99)), (1, .int i1), (2, .int i2)]) hx hb dX5_readsOnes_1 rfl hl (by decide) rfl (fun ls hl => ?_)
  obtain ⟨nn, h⟩ := h
  exact L2 nn (0 : Int32) S h H locs hP hD hS ls (lv_sub hl [1, 2, 3, 0] rfl)
set_option maxHeartbeats 4000000 in
set_option maxRecDepth 100000 in
theorem c_X5_kindOf (l : Launch) (D : va_G) (cy : ClassId)  (i0 : Int32) {Q : Int32 → Prop} (h : wp_X5_kindOf i0 Q) : Met l yX5_kindOf w_X5_kindOf rm_X5_kindOf (va_Pc [.int i0] (zR D cy ([] : va_W))) (vp_Si Q) 0 0 (fun _ => False) := by
  refine zOf_r (by decide) (Nat.le_of_ble_eq_true rfl) ?_
  intro p e s m below meth c ls hx hb hr hml hown htB hlocks hK hN hP hl
  replace hl : lv_has ls 1 [(0, .int i0)] := hl
  refine lv_iload_n hx hb dX5_kindOf_0 rfl (lv_at hl 0 rfl) ?_
  by_cases c1_0 : i0 = (98 : Int32)
  · replace h := And.left h c1_0
    refine lv_tableIn (off := 89) (tgt := 90) hx hb dX5_kindOf_1 (by rw [c1_0]; decide) (by rw [c1_0]; decide) (by rw [c1_0]; rfl) (by decide) ?_
    refine lv_iconst (v := (3 : Int32)) hx hb dX5_kindOf_90 (by decide) ?_
    exact W.iret (v := (3 : Int32)) hx hb hr (fun t ht hW => ⟨_, rfl, h, ht⟩) (fun q hq => by cases hq) dX5_kindOf_91
  · replace h := And.right h c1_0
    by_cases c1_1 : i0 = (99 : Int32)
    · replace h := And.left h c1_1
      refine lv_tableIn (off := 91) (tgt := 92) hx hb dX5_kindOf_1 (by rw [c1_1]; decide) (by rw [c1_1]; decide) (by rw [c1_1]; rfl) (by decide) ?_
      refine lv_iconst (v := (4 : Int32)) hx hb dX5_kindOf_92 (by decide) ?_
      exact W.iret (v := (4 : Int32)) hx hb hr (fun t ht hW => ⟨_, rfl, h, ht⟩) (fun q hq => by cases hq) dX5_kindOf_93
    · replace h := And.right h c1_1
      by_cases c1_2 : i0 = (100 : Int32)
      · replace h := And.left h c1_2
        refine lv_tableIn (off := 95) (tgt := 96) hx hb dX5_kindOf_1 (by rw [c1_2]; decide) (by rw [c1_2]; decide) (by rw [c1_2]; rfl) (by decide) ?_
        refine lv_iconst (v := (-1 : Int32)) hx hb dX5_kindOf_96 (by decide) ?_
        exact W.iret (v := (-1 : Int32)) hx hb hr (fun t ht hW => ⟨_, rfl, h, ht⟩) (fun q hq => by cases hq) dX5_kindOf_97
      · replace h := And.right h c1_2
        by_cases c1_3 : i0 = (101 : Int32)
        · replace h := And.left h c1_3
          refine lv_tableIn (off := 95) (tgt := 96) hx hb dX5_kindOf_1 (by rw [c1_3]; decide) (by rw [c1_3]; decide) (by rw [c1_3]; rfl) (by decide) ?_
          refine lv_iconst (v := (-1 : Int32)) hx hb dX5_kindOf_96 (by decide) ?_
          exact W.iret (v := (-1 : Int32)) hx hb hr (fun t ht hW => ⟨_, rfl, h, ht⟩) (fun q hq => by cases hq) dX5_kindOf_97
        · replace h := And.right h c1_3
          by_cases c1_4 : i0 = (102 : Int32)
          · replace h := And.left h c1_4
            refine lv_tableIn (off := 95) (tgt := 96) hx hb dX5_kindOf_1 (by rw [c1_4]; decide) (by rw [c1_4]; decide) (by rw [c1_4]; rfl) (by decide) ?_
            refine lv_iconst (v := (-1 : Int32)) hx hb dX5_kindOf_96 (by decide) ?_
            exact W.iret (v := (-1 : Int32)) hx hb hr (fun t ht hW => ⟨_, rfl, h, ht⟩) (fun q hq => by cases hq) dX5_kindOf_97
          · replace h := And.right h c1_4
            by_cases c1_5 : i0 = (103 : Int32)
            · replace h := And.left h c1_5
              refine lv_tableIn (off := 95) (tgt := 96) hx hb dX5_kindOf_1 (by rw [c1_5]; decide) (by rw [c1_5]; decide) (by rw [c1_5]; rfl) (by decide) ?_
              refine lv_iconst (v := (-1 : Int32)) hx hb dX5_kindOf_96 (by decide) ?_
              exact W.iret (v := (-1 : Int32)) hx hb hr (fun t ht hW => ⟨_, rfl, h, ht⟩) (fun q hq => by cases hq) dX5_kindOf_97
            · replace h := And.right h c1_5
              by_cases c1_6 : i0 = (104 : Int32)
              · replace h := And.left h c1_6
                refine lv_tableIn (off := 87) (tgt := 88) hx hb dX5_kindOf_1 (by rw [c1_6]; decide) (by rw [c1_6]; decide) (by rw [c1_6]; rfl) (by decide) ?_
                refine lv_iconst (v := (2 : Int32)) hx hb dX5_kindOf_88 (by decide) ?_
                exact W.iret (v := (2 : Int32)) hx hb hr (fun t ht hW => ⟨_, rfl, h, ht⟩) (fun q hq => by cases hq) dX5_kindOf_89
              · replace h := And.right h c1_6
                by_cases c1_7 : i0 = (105 : Int32)
                · replace h := And.left h c1_7
                  refine lv_tableIn (off := 95) (tgt := 96) hx hb dX5_kindOf_1 (by rw [c1_7]; decide) (by rw [c1_7]; decide) (by rw [c1_7]; rfl) (by decide) ?_
                  refine lv_iconst (v := (-1 : Int32)) hx hb dX5_kindOf_96 (by decide) ?_
                  exact W.iret (v := (-1 : Int32)) hx hb hr (fun t ht hW => ⟨_, rfl, h, ht⟩) (fun q hq => by cases hq) dX5_kindOf_97
                · replace h := And.right h c1_7
                  by_cases c1_8 : i0 = (106 : Int32)
                  · replace h := And.left h c1_8
                    refine lv_tableIn (off := 95) (tgt := 96) hx hb dX5_kindOf_1 (by rw [c1_8]; decide) (by rw [c1_8]; decide) (by rw [c1_8]; rfl) (by decide) ?_
                    refine lv_iconst (v := (-1 : Int32)) hx hb dX5_kindOf_96 (by decide) ?_
                    exact W.iret (v := (-1 : Int32)) hx hb hr (fun t ht hW => ⟨_, rfl, h, ht⟩) (fun q hq => by cases hq) dX5_kindOf_97
                  · replace h := And.right h c1_8
                    by_cases c1_9 : i0 = (107 : Int32)
                    · replace h := And.left h c1_9
                      refine lv_tableIn (off := 95) (tgt := 96) hx hb dX5_kindOf_1 (by rw [c1_9]; decide) (by rw [c1_9]; decide) (by rw [c1_9]; rfl) (by decide) ?_
                      refine lv_iconst (v := (-1 : Int32)) hx hb dX5_kindOf_96 (by decide) ?_
                      exact W.iret (v := (-1 : Int32)) hx hb hr (fun t ht hW => ⟨_, rfl, h, ht⟩) (fun q hq => by cases hq) dX5_kindOf_97
                    · replace h := And.right h c1_9
                      by_cases c1_10 : i0 = (108 : Int32)
                      · replace h := And.left h c1_10
                        refine lv_tableIn (off := 95) (tgt := 96) hx hb dX5_kindOf_1 (by rw [c1_10]; decide) (by rw [c1_10]; decide) (by rw [c1_10]; rfl) (by decide) ?_
                        refine lv_iconst (v := (-1 : Int32)) hx hb dX5_kindOf_96 (by decide) ?_
                        exact W.iret (v := (-1 : Int32)) hx hb hr (fun t ht hW => ⟨_, rfl, h, ht⟩) (fun q hq => by cases hq) dX5_kindOf_97
                      · replace h := And.right h c1_10
                        by_cases c1_11 : i0 = (109 : Int32)
                        · replace h := And.left h c1_11
                          refine lv_tableIn (off := 95) (tgt := 96) hx hb dX5_kindOf_1 (by rw [c1_11]; decide) (by rw [c1_11]; decide) (by rw [c1_11]; rfl) (by decide) ?_
                          refine lv_iconst (v := (-1 : Int32)) hx hb dX5_kindOf_96 (by decide) ?_
                          exact W.iret (v := (-1 : Int32)) hx hb hr (fun t ht hW => ⟨_, rfl, h, ht⟩) (fun q hq => by cases hq) dX5_kindOf_97
                        · replace h := And.right h c1_11
                          by_cases c1_12 : i0 = (110 : Int32)
                          · replace h := And.left h c1_12
                            refine lv_tableIn (off := 95) (tgt := 96) hx hb dX5_kindOf_1 (by rw [c1_12]; decide) (by rw [c1_12]; decide) (by rw [c1_12]; rfl) (by decide) ?_
                            refine lv_iconst (v := (-1 : Int32)) hx hb dX5_kindOf_96 (by decide) ?_
                            exact W.iret (v := (-1 : Int32)) hx hb hr (fun t ht hW => ⟨_, rfl, h, ht⟩) (fun q hq => by cases hq) dX5_kindOf_97
                          · replace h := And.right h c1_12
                            by_cases c1_13 : i0 = (111 : Int32)
                            · replace h := And.left h c1_13
                              refine lv_tableIn (off := 93) (tgt := 94) hx hb dX5_kindOf_1 (by rw [c1_13]; decide) (by rw [c1_13]; decide) (by rw [c1_13]; rfl) (by decide) ?_
                              refine lv_iconst (v := (5 : Int32)) hx hb dX5_kindOf_94 (by decide) ?_
                              exact W.iret (v := (5 : Int32)) hx hb hr (fun t ht hW => ⟨_, rfl, h, ht⟩) (fun q hq => by cases hq) dX5_kindOf_95
                            · replace h := And.right h c1_13
                              by_cases c1_14 : i0 = (112 : Int32)
                              · replace h := And.left h c1_14
                                refine lv_tableIn (off := 83) (tgt := 84) hx hb dX5_kindOf_1 (by rw [c1_14]; decide) (by rw [c1_14]; decide) (by rw [c1_14]; rfl) (by decide) ?_
                                refine lv_iconst (v := (0 : Int32)) hx hb dX5_kindOf_84 (by decide) ?_
                                exact W.iret (v := (0 : Int32)) hx hb hr (fun t ht hW => ⟨_, rfl, h, ht⟩) (fun q hq => by cases hq) dX5_kindOf_85
                              · replace h := And.right h c1_14
                                by_cases c1_15 : i0 = (113 : Int32)
                                · replace h := And.left h c1_15
                                  refine lv_tableIn (off := 95) (tgt := 96) hx hb dX5_kindOf_1 (by rw [c1_15]; decide) (by rw [c1_15]; decide) (by rw [c1_15]; rfl) (by decide) ?_
                                  refine lv_iconst (v := (-1 : Int32)) hx hb dX5_kindOf_96 (by decide) ?_
                                  exact W.iret (v := (-1 : Int32)) hx hb hr (fun t ht hW => ⟨_, rfl, h, ht⟩) (fun q hq => by cases hq) dX5_kindOf_97
                                · replace h := And.right h c1_15
                                  by_cases c1_16 : i0 = (114 : Int32)
                                  · replace h := And.left h c1_16
                                    refine lv_tableIn (off := 85) (tgt := 86) hx hb dX5_kindOf_1 (by rw [c1_16]; decide) (by rw [c1_16]; decide) (by rw [c1_16]; rfl) (by decide) ?_
                                    refine lv_iconst (v := (1 : Int32)) hx hb dX5_kindOf_86 (by decide) ?_
                                    exact W.iret (v := (1 : Int32)) hx hb hr (fun t ht hW => ⟨_, rfl, h, ht⟩) (fun q hq => by cases hq) dX5_kindOf_87
                                  · replace h := And.right h c1_16
                                    have z0 := lv_neT c1_0 (a := 98) rfl
                                    have z1 := lv_neT c1_1 (a := 99) rfl
                                    have z2 := lv_neT c1_2 (a := 100) rfl
                                    have z3 := lv_neT c1_3 (a := 101) rfl
                                    have z4 := lv_neT c1_4 (a := 102) rfl
                                    have z5 := lv_neT c1_5 (a := 103) rfl
                                    have z6 := lv_neT c1_6 (a := 104) rfl
                                    have z7 := lv_neT c1_7 (a := 105) rfl
                                    have z8 := lv_neT c1_8 (a := 106) rfl
                                    have z9 := lv_neT c1_9 (a := 107) rfl
                                    have z10 := lv_neT c1_10 (a := 108) rfl
                                    have z11 := lv_neT c1_11 (a := 109) rfl
                                    have z12 := lv_neT c1_12 (a := 110) rfl
                                    have z13 := lv_neT c1_13 (a := 111) rfl
                                    have z14 := lv_neT c1_14 (a := 112) rfl
                                    have z15 := lv_neT c1_15 (a := 113) rfl
                                    have z16 := lv_neT c1_16 (a := 114) rfl
                                    refine lv_tableOut (tgt := 96) hx hb dX5_kindOf_1 (by omega) (by decide) ?_
                                    refine lv_iconst (v := (-1 : Int32)) hx hb dX5_kindOf_96 (by decide) ?_
                                    exact W.iret (v := (-1 : Int32)) hx hb hr (fun t ht hW => ⟨_, rfl, h, ht⟩) (fun q hq => by cases hq) dX5_kindOf_97
set_option maxHeartbeats 4000000 in
set_option maxRecDepth 100000 in
theorem c_X5_readsWalker (l : Launch) (D : va_G) (cy : ClassId) (ah : Nat → Nat) (sz : Nat) (i1 : Int32) (S : zT) {Q : Int32 → zT → Prop} (h : wp_X5_readsWalker i1 S Q) : Met l yX5_readsWalker w_X5_readsWalker rm_X5_readsWalker (va_Pc [.ref (ah 99), .int i1] (zM D cy (bX5 ah cy S) sz)) (va_Qi (S := zT) (fun (r : Int32) (u : zT) => Q r u) (fun u t => va_P D zCl ((fun (u : zT) => (bX5 ah cy u)) u) t.heap) (va_A (bX5 ah cy S) sz)) 0 0 (va_A (bX5 ah cy S) sz) := by
  refine zOf_i (by decide) (Nat.le_of_ble_eq_true rfl) ?_
  intro p e s m below meth c ls A H locs hx hb hr hml hown htB hlocks hK hN hP hD hS hA hl
  replace hl : lv_has ls 2 [(0, .ref (ah 99)), (1, .int i1)] := hl
  refine lv_aload_n hx hb dX5_readsWalker_0 rfl (lv_at hl 0 rfl) ?_
  refine va_get (D := D) (ci := 5) (v := .ref (ah 18)) (C := RX5) (T := TX5) (N := 41) hx hb htB ziX5 hown hK hP 0 rfl rfl 18 (by decide) (htB _ zm_274) (fun _ h9 => h9) rfl dX5_readsWalker_1 ?_
  refine lv_iload_n hx hb dX5_readsWalker_4 rfl (lv_at hl 1 rfl) ?_
  refine lv_aload_n hx hb dX5_readsWalker_5 rfl (lv_at hl 0 rfl) ?_
  refine zc_r (va_runV (As := []) (rest := [.int i1, .ref (ah 18)]) ⟨hx, hb, hml, hown, htB⟩ (c_X5_next l D cy ah S h) (cwV 0 htB (zgV zm_270 zm_272 zm_273 zm_263 zm_271) rfl rfl rfl hd_X5_next ⟨Nat.le_of_ble_eq_true rfl, Nat.le_of_ble_eq_true rfl⟩) ⟨zR_blind, va_recv hK hP (ci := 5) (q0 := 0) rfl rfl, zR_pre hP hK hN⟩ rfl rfl hl.1 rfl (lv_room (Nat.le_of_ble_eq_true rfl)) dX5_readsWalker_6 ⟨Nat.zero_le _, Nat.zero_le _⟩) (fun r6 h => ?_)
  have hPc : va_P D zCl ([] : va_W) H := hP.sub [] rfl
  refine zc_r (va_runS (As := [.int r6]) (rest := [.int i1, .ref (ah 18)]) ⟨hx, hb, hml, hown, htB⟩ (c_X5_kindOf l D cy  r6 h) (cwS 1 htB (zgS zm_282 zm_284 zm_263 zm_283) rfl rfl rfl hd_X5_kindOf ⟨Nat.le_of_ble_eq_true rfl, Nat.le_of_ble_eq_true rfl⟩) ⟨zR_blind, zR_pre hPc hK hN⟩ rfl rfl hl.1 rfl (lv_room (Nat.le_of_ble_eq_true rfl)) dX5_readsWalker_9 ⟨Nat.zero_le _, Nat.zero_le _⟩) (fun r9 h => ?_)
  refine va_iast (D := D) hx hb hK hP hD hS 17 0 rfl rfl (And.left h) dX5_readsWalker_12 (fun H locs hP hD hS => ?_)
  replace h := And.right h
  obtain ⟨S_12, eS_12⟩ : ∃ z : zT, z = (va_up S 18 (upd (S 18) i1.toNatClampNeg r9)) := ⟨_, rfl⟩
  replace h := h S_12 eS_12
  replace hP : va_P D zCl (bX5 ah cy S_12) H := by rw [eS_12]; exact hP
  replace hD : va_D A (bX5 ah cy S_12) := by rw [eS_12]; exact hD
  refine lv_aload_n hx hb dX5_readsWalker_13 rfl (lv_at hl 0 rfl) ?_
  refine va_get (D := D) (ci := 5) (v := .ref (ah 18)) (C := RX5) (T := TX5) (N := 41) hx hb htB ziX5 hown hK hP 0 rfl rfl 18 (by decide) (htB _ zm_274) (fun _ h9 => h9) rfl dX5_readsWalker_14 ?_
  refine lv_iload_n hx hb dX5_readsWalker_17 rfl (lv_at hl 1 rfl) ?_
  refine va_iald (D := D) hx hb hK hP 17 0 rfl rfl (And.left h) dX5_readsWalker_18 ?_
  replace h := And.right h
  refine lv_if_ge (tgt := 24) hx hb dX5_readsWalker_19 (by decide) (fun c19 => ?_) (fun c19 => ?_)
  · replace h := And.left h c19
    refine lv_aload_n hx hb dX5_readsWalker_24 rfl (lv_at hl 0 rfl) ?_
    refine lv_dup hx hb dX5_readsWalker_25 rfl ?_
    refine va_get (D := D) (ci := 5) (v := .int (S_12 20 0)) (C := RX5) (T := TX5) (N := 41) hx hb htB ziX5 hown hK hP 0 rfl rfl 20 (by decide) (htB _ zm_269) (fun _ h9 => h9) rfl dX5_readsWalker_26 ?_
    refine lv_iconst (v := (1 : Int32)) hx hb dX5_readsWalker_29 (by decide) ?_
    refine lv_iadd hx hb dX5_readsWalker_30 ?_
    refine va_put (D := D) (ci := 5) (v := .int ((S_12 20 0) + (1 : Int32))) (ty := .int) (C := RX5) (T := TX5) (N := 41) hx hb htB ziX5 tyX5 tyX5_ok nmX5 hown hK hP hD hS 0 rfl rfl 20 (by decide) (htB _ zm_269) (fun _ h9 => h9) rfl (tyX5_ok 20 (by decide)) rfl rfl (Nat.le_of_ble_eq_true rfl) dX5_readsWalker_31 (fun H locs hP hD hS => ?_)
    obtain ⟨S_31, eS_31⟩ : ∃ z : zT, z = (va_up S_12 20 (fun _ => ((S_12 20 0) + (1 : Int32)))) := ⟨_, rfl⟩
    replace h := h S_31 eS_31
    replace hP : va_P D zCl (bX5 ah cy S_31) H := by rw [eS_31]; exact hP
    replace hD : va_D A (bX5 ah cy S_31) := by rw [eS_31]; exact hD
    refine lv_aload_n hx hb dX5_readsWalker_34 rfl (lv_at hl 0 rfl) ?_
    refine lv_iload_n hx hb dX5_readsWalker_35 rfl (lv_at hl 1 rfl) ?_
    refine lv_iconst (v := (1 : Int32)) hx hb dX5_readsWalker_36 (by decide) ?_
    refine lv_iadd hx hb dX5_readsWalker_37 ?_
    refine lv_iconst (v := (2 : Int32)) hx hb dX5_readsWalker_38 (by decide) ?_
    refine zc_if (ws' := fun u => (bX5 ah cy u)) (va_runV (As := [.int (i1 + (1 : Int32)), .int (2 : Int32)]) (rest := []) ⟨hx, hb, hml, hown, htB⟩ (c_X5_reads l D cy ah H.size (i1 + (1 : Int32)) (2 : Int32) S_31 h) (cwV 2 htB (zgV zm_278 zm_280 zm_281 zm_263 zm_279) rfl rfl rfl hd_X5_reads ⟨Nat.le_of_ble_eq_true rfl, Nat.le_of_ble_eq_true rfl⟩) ⟨zM_blind, va_recv hK hP (ci := 5) (q0 := 0) rfl rfl, zM_pre hP hK hN hD⟩ rfl rfl hl.1 rfl (lv_room (Nat.le_of_ble_eq_true rfl)) dX5_readsWalker_39 ⟨Nat.zero_le _, Nat.zero_le _⟩) hS hA hP hD (fun u => rfl) (fun u => rfl) (fun r39 u H locs h hP hD hS => ?_)
    obtain ⟨S_39, eu⟩ : ∃ z, z = u := ⟨_, rfl⟩
    subst eu
    replace hP : va_P D zCl (bX5 ah cy S_39) H := hP
    replace hD : va_D A (bX5 ah cy S_39) := hD
    refine lv_if_eq (tgt := 89) hx hb dX5_readsWalker_42 (by decide) (fun c42 => ?_) (fun c42 => ?_)
    · replace h := And.left h c42
      refine lv_iconst (v := (0 : Int32)) hx hb dX5_readsWalker_89 (by decide) ?_
      exact W.zret (v := (0 : Int32)) hx hb hr rfl (fun t ht hW => ⟨⟨_, S_39, rfl, h, zP_h ht hP⟩, hS.F ht⟩) hS.2.2 dX5_readsWalker_90
    · replace h := And.right h c42
      refine lv_aload_n hx hb dX5_readsWalker_45 rfl (lv_at hl 0 rfl) ?_
      refine lv_bipush (v := (44 : Int32)) hx hb dX5_readsWalker_46 (by decide) ?_
      refine zc_if (ws' := fun u => (bX5 ah cy u)) (va_runV (As := [.int (44 : Int32)]) (rest := []) ⟨hx, hb, hml, hown, htB⟩ (c_X5_isNext l D cy ah H.size (44 : Int32) S_39 h) (cwV 1 htB (zgV zm_285 zm_287 zm_288 zm_263 zm_286) rfl rfl rfl hd_X5_isNext ⟨Nat.le_of_ble_eq_true rfl, Nat.le_of_ble_eq_true rfl⟩) ⟨zM_blind, va_recv hK hP (ci := 5) (q0 := 0) rfl rfl, zM_pre hP hK hN hD⟩ rfl rfl hl.1 rfl (lv_room (Nat.le_of_ble_eq_true rfl)) dX5_readsWalker_48 ⟨Nat.zero_le _, Nat.zero_le _⟩) hS hA hP hD (fun u => rfl) (fun u => rfl) (fun r48 u H locs h hP hD hS => ?_)
      obtain ⟨S_48, eu⟩ : ∃ z, z = u := ⟨_, rfl⟩
      subst eu
      replace hP : va_P D zCl (bX5 ah cy S_48) H := hP
      replace hD : va_D A (bX5 ah cy S_48) := hD
      refine lv_if_eq (tgt := 89) hx hb dX5_readsWalker_51 (by decide) (fun c51 => ?_) (fun c51 => ?_)
      · replace h := And.left h c51
        refine lv_iconst (v := (0 : Int32)) hx hb dX5_readsWalker_89 (by decide) ?_
        exact W.zret (v := (0 : Int32)) hx hb hr rfl (fun t ht hW => ⟨⟨_, S_48, rfl, h, zP_h ht hP⟩, hS.F ht⟩) hS.2.2 dX5_readsWalker_90
      · replace h := And.right h c51
        refine lv_aload_n hx hb dX5_readsWalker_54 rfl (lv_at hl 0 rfl) ?_
        refine lv_iload_n hx hb dX5_readsWalker_55 rfl (lv_at hl 1 rfl) ?_
        refine lv_iconst (v := (2 : Int32)) hx hb dX5_readsWalker_56 (by decide) ?_
        refine lv_iadd hx hb dX5_readsWalker_57 ?_
        refine lv_iconst (v := (2 : Int32)) hx hb dX5_readsWalker_58 (by decide) ?_
        refine zc_if (ws' := fun u => (bX5 ah cy u)) (va_runV (As := [.int (i1 + (2 : Int32)), .int (2 : Int32)]) (rest := []) ⟨hx, hb, hml, hown, htB⟩ (c_X5_reads l D cy ah H.size (i1 + (2 : Int32)) (2 : Int32) S_48 h) (cwV 2 htB (zgV zm_278 zm_280 zm_281 zm_263 zm_279) rfl rfl rfl hd_X5_reads ⟨Nat.le_of_ble_eq_true rfl, Nat.le_of_ble_eq_true rfl⟩) ⟨zM_blind, va_recv hK hP (ci := 5) (q0 := 0) rfl rfl, zM_pre hP hK hN hD⟩ rfl rfl hl.1 rfl (lv_room (Nat.le_of_ble_eq_true rfl)) dX5_readsWalker_59 ⟨Nat.zero_le _, Nat.zero_le _⟩) hS hA hP hD (fun u => rfl) (fun u => rfl) (fun r59 u H locs h hP hD hS => ?_)
        obtain ⟨S_59, eu⟩ : ∃ z, z = u := ⟨_, rfl⟩
        subst eu
        replace hP : va_P D zCl (bX5 ah cy S_59) H := hP
        replace hD : va_D A (bX5 ah cy S_59) := hD
        refine lv_if_eq (tgt := 89) hx hb dX5_readsWalker_62 (by decide) (fun c62 => ?_) (fun c62 => ?_)
        · replace h := And.left h c62
          refine lv_iconst (v := (0 : Int32)) hx hb dX5_readsWalker_89 (by decide) ?_
          exact W.zret (v := (0 : Int32)) hx hb hr rfl (fun t ht hW => ⟨⟨_, S_59, rfl, h, zP_h ht hP⟩, hS.F ht⟩) hS.2.2 dX5_readsWalker_90
        · replace h := And.right h c62
          refine lv_aload_n hx hb dX5_readsWalker_65 rfl (lv_at hl 0 rfl) ?_
          refine lv_bipush (v := (44 : Int32)) hx hb dX5_readsWalker_66 (by decide) ?_
          refine zc_if (ws' := fun u => (bX5 ah cy u)) (va_runV (As := [.int (44 : Int32)]) (rest := []) ⟨hx, hb, hml, hown, htB⟩ (c_X5_isNext l D cy ah H.size (44 : Int32) S_59 h) (cwV 1 htB (zgV zm_285 zm_287 zm_288 zm_263 zm_286) rfl rfl rfl hd_X5_isNext ⟨Nat.le_of_ble_eq_true rfl, Nat.le_of_ble_eq_true rfl⟩) ⟨zM_blind, va_recv hK hP (ci := 5) (q0 := 0) rfl rfl, zM_pre hP hK hN hD⟩ rfl rfl hl.1 rfl (lv_room (Nat.le_of_ble_eq_true rfl)) dX5_readsWalker_68 ⟨Nat.zero_le _, Nat.zero_le _⟩) hS hA hP hD (fun u => rfl) (fun u => rfl) (fun r68 u H locs h hP hD hS => ?_)
          obtain ⟨S_68, eu⟩ : ∃ z, z = u := ⟨_, rfl⟩
          subst eu
          replace hP : va_P D zCl (bX5 ah cy S_68) H := hP
          replace hD : va_D A (bX5 ah cy S_68) := hD
          refine lv_if_eq (tgt := 89) hx hb dX5_readsWalker_71 (by decide) (fun c71 => ?_) (fun c71 => ?_)
          · replace h := And.left h c71
            refine lv_iconst (v := (0 : Int32)) hx hb dX5_readsWalker_89 (by decide) ?_
            exact W.zret (v := (0 : Int32)) hx hb hr rfl (fun t ht hW => ⟨⟨_, S_68, rfl, h, zP_h ht hP⟩, hS.F ht⟩) hS.2.2 dX5_readsWalker_90
          · replace h := And.right h c71
            refine lv_aload_n hx hb dX5_readsWalker_74 rfl (lv_at hl 0 rfl) ?_
            refine lv_iload_n hx hb dX5_readsWalker_75 rfl (lv_at hl 1 rfl) ?_
            refine lv_iconst (v := (3 : Int32)) hx hb dX5_readsWalker_76 (by decide) ?_
            refine lv_iadd hx hb dX5_readsWalker_77 ?_
            refine lv_iconst (v := (4 : Int32)) hx hb dX5_readsWalker_78 (by decide) ?_
            refine zc_if (ws' := fun u => (bX5 ah cy u)) (va_runV (As := [.int (i1 + (3 : Int32)), .int (4 : Int32)]) (rest := []) ⟨hx, hb, hml, hown, htB⟩ (c_X5_readsOnes l D cy ah H.size (i1 + (3 : Int32)) (4 : Int32) S_68 h) (cwV 2 htB (zgV zm_289 zm_291 zm_292 zm_263 zm_290) rfl rfl rfl hd_X5_readsOnes ⟨Nat.le_of_ble_eq_true rfl, Nat.le_of_ble_eq_true rfl⟩) ⟨zM_blind, va_recv hK hP (ci := 5) (q0 := 0) rfl rfl, zM_pre hP hK hN hD⟩ rfl rfl hl.1 rfl (lv_room (Nat.le_of_ble_eq_true rfl)) dX5_readsWalker_79 ⟨Nat.zero_le _, Nat.zero_le _⟩) hS hA hP hD (fun u => rfl) (fun u => rfl) (fun r79 u H locs h hP hD hS => ?_)
            obtain ⟨S_79, eu⟩ : ∃ z, z = u := ⟨_, rfl⟩
            subst eu
            replace hP : va_P D zCl (bX5 ah cy S_79) H := hP
            replace hD : va_D A (bX5 ah cy S_79) := hD
            refine lv_if_eq (tgt := 89) hx hb dX5_readsWalker_82 (by decide) (fun c82 => ?_) (fun c82 => ?_)
            · replace h := And.left h c82
              refine lv_iconst (v := (0 : Int32)) hx hb dX5_readsWalker_89 (by decide) ?_
              exact W.zret (v := (0 : Int32)) hx hb hr rfl (fun t ht hW => ⟨⟨_, S_79, rfl, h, zP_h ht hP⟩, hS.F ht⟩) hS.2.2 dX5_readsWalker_90
            · replace h := And.right h c82
              refine lv_iconst (v := (1 : Int32)) hx hb dX5_readsWalker_85 (by decide) ?_
              refine lv_goto (tgt := 90) hx hb dX5_readsWalker_86 (by decide) ?_
              exact W.zret (v := (1 : Int32)) hx hb hr rfl (fun t ht hW => ⟨⟨_, S_79, rfl, h, zP_h ht hP⟩, hS.F ht⟩) hS.2.2 dX5_readsWalker_90
  · replace h := And.right h c19
    refine lv_iconst (v := (0 : Int32)) hx hb dX5_readsWalker_22 (by decide) ?_
    exact W.zret (v := (0 : Int32)) hx hb hr rfl (fun t ht hW => ⟨⟨_, S_12, rfl, h, zP_h ht hP⟩, hS.F ht⟩) hS.2.2 dX5_readsWalker_23
set_option maxHeartbeats 4000000 in
set_option maxRecDepth 100000 in
theorem c_X5_statement (l : Launch) (D : va_G) (cy : ClassId) (ah : Nat → Nat) (sz : Nat) (S : zT) {Q : Int32 → zT → Prop} (h : wp_X5_statement S Q) : Met l yX5_statement w_X5_statement rm_X5_statement (va_Pc [.ref (ah 99)] (zM D cy (bX5 ah cy S) sz)) (va_Qi (S := zT) (fun (r : Int32) (u : zT) => Q r u) (fun u t => va_P D zCl ((fun (u : zT) => (bX5 ah cy u)) u) t.heap) (va_A (bX5 ah cy S) sz)) 0 0 (va_A (bX5 ah cy S) sz) := by
  refine zOf_i (by decide) (Nat.le_of_ble_eq_true rfl) ?_
  intro p e s m below meth c ls A H locs hx hb hr hml hown htB hlocks hK hN hP hD hS hA hl
  replace hl : lv_has ls 4 [(0, .ref (ah 99))] := hl
  have L120 : ∀ (t0 : Int32) (S : zT), wpb_X5_statement_120 Q t0 S → ∀ (H : Heap) (locs : List Loc), va_P D zCl (bX5 ah cy S) H → va_D A (bX5 ah cy S) → va_S A s.heap H locs → ∀ ls : Array Slot, lv_has ls 4 [(0, .ref (ah 99))] → W p l e rm_X5_statement s m ([.ref (ah 99)] : List Value).toArray below meth c H locs 0 0 (MQ below (va_Qi (S := zT) (fun (r : Int32) (u : zT) => Q r u) (fun u t => va_P D zCl ((fun (u : zT) => (bX5 ah cy u)) u) t.heap) A) ([.ref (ah 99)] : List Value).toArray s 0 0 A) (F0 m 120 ls [.int t0]) := by
    intro t0 S h H locs hP hD hS ls hl
    refine lv_istore_n (lv' := [(3, .int t0), (0, .ref (ah 99))]) hx hb dX5_statement_120 rfl hl (by decide) rfl (fun ls hl => ?_)
    refine lv_iload_n hx hb dX5_statement_121 rfl (lv_at hl 0 rfl) ?_
    refine lv_if_eq (tgt := 138) hx hb dX5_statement_122 (by decide) (fun c122 => ?_) (fun c122 => ?_)
    · replace h := And.left h c122
      refine lv_iconst (v := (0 : Int32)) hx hb dX5_statement_138 (by decide) ?_
      exact W.zret (v := (0 : Int32)) hx hb hr rfl (fun t ht hW => ⟨⟨_, S, rfl, h, zP_h ht hP⟩, hS.F ht⟩) hS.2.2 dX5_statement_139
    · replace h := And.right h c122
      refine lv_aload_n hx hb dX5_statement_125 rfl (lv_at hl 1 rfl) ?_
      refine lv_bipush (v := (59 : Int32)) hx hb dX5_statement_126 (by decide) ?_
      refine zc_if (ws' := fun u => (bX5 ah cy u)) (va_runV (As := [.int (59 : Int32)]) (rest := []) ⟨hx, hb, hml, hown, htB⟩ (c_X5_isNext l D cy ah H.size (59 : Int32) S h) (cwV 1 htB (zgV zm_285 zm_287 zm_288 zm_263 zm_286) rfl rfl rfl hd_X5_isNext ⟨Nat.le_of_ble_eq_true rfl, Nat.le_of_ble_eq_true rfl⟩) ⟨zM_blind, va_recv hK hP (ci := 5) (q0 := 0) rfl rfl, zM_pre hP hK hN hD⟩ rfl rfl hl.1 rfl (lv_room (Nat.le_of_ble_eq_true rfl)) dX5_statement_128 ⟨Nat.zero_le _, Nat.zero_le _⟩) hS hA hP hD (fun u => rfl) (fun u => rfl) (fun r128 u H locs h hP hD hS => ?_)
      obtain ⟨S_128, eu⟩ : ∃ z, z = u := ⟨_, rfl⟩
      subst eu
      replace hP : va_P D zCl (bX5 ah cy S_128) H := hP
      replace hD : va_D A (bX5 ah cy S_128) := hD
      refine lv_if_eq (tgt := 138) hx hb dX5_statement_131 (by decide) (fun c131 => ?_) (fun c131 => ?_)
      · replace h := And.left h c131
        refine lv_iconst (v := (0 : Int32)) hx hb dX5_statement_138 (by decide) ?_
        exact W.zret (v := (0 : Int32)) hx hb hr rfl (fun t ht hW => ⟨⟨_, S_128, rfl, h, zP_h ht hP⟩, hS.F ht⟩) hS.2.2 dX5_statement_139
      · replace h := And.right h c131
        refine lv_iconst (v := (1 : Int32)) hx hb dX5_statement_134 (by decide) ?_
        refine lv_goto (tgt := 139) hx hb dX5_statement_135 (by decide) ?_
        exact W.zret (v := (1 : Int32)) hx hb hr rfl (fun t ht hW => ⟨⟨_, S_128, rfl, h, zP_h ht hP⟩, hS.F ht⟩) hS.2.2 dX5_statement_139
  have L111 : ∀ (S : zT), wpb_X5_statement_111 Q S → ∀ (H : Heap) (locs : List Loc), va_P D zCl (bX5 ah cy S) H → va_D A (bX5 ah cy S) → va_S A s.heap H locs → ∀ ls : Array Slot, lv_has ls 4 [(0, .ref (ah 99))] → W p l e rm_X5_statement s m ([.ref (ah 99)] : List Value).toArray below meth c H locs 0 0 (MQ below (va_Qi (S := zT) (fun (r : Int32) (u : zT) => Q r u) (fun u t => va_P D zCl ((fun (u : zT) => (bX5 ah cy u)) u) t.heap) A) ([.ref (ah 99)] : List Value).toArray s 0 0 A) (F0 m 111 ls []) := by
    intro S h H locs hP hD hS ls hl
    refine lv_iconst (v := (0 : Int32)) hx hb dX5_statement_111 (by decide) ?_
    refine lv_goto (tgt := 120) hx hb dX5_statement_112 (by decide) ?_
    exact L120 (0 : Int32) S h H locs hP hD hS ls (lv_sub hl [0] rfl)
  have L25 : ∀ (x1 : Int32) (S : zT), wpb_X5_statement_25 Q x1 S → ∀ (H : Heap) (locs : List Loc), va_P D zCl (bX5 ah cy S) H → va_D A (bX5 ah cy S) → va_S A s.heap H locs → ∀ ls : Array Slot, lv_has ls 4 [(0, .ref (ah 99)), (1, .int x1)] → W p l e rm_X5_statement s m ([.ref (ah 99)] : List Value).toArray below meth c H locs 0 0 (MQ below (va_Qi (S := zT) (fun (r : Int32) (u : zT) => Q r u) (fun u t => va_P D zCl ((fun (u : zT) => (bX5 ah cy u)) u) t.heap) A) ([.ref (ah 99)] : List Value).toArray s 0 0 A) (F0 m 25 ls []) := by
    intro x1 S h H locs hP hD hS ls hl
    refine lv_aload_n hx hb dX5_statement_25 rfl (lv_at hl 0 rfl) ?_
    refine va_get (D := D) (ci := 5) (v := .ref (ah 16)) (C := RX5) (T := TX5) (N := 41) hx hb htB ziX5 hown hK hP 0 rfl rfl 16 (by decide) (htB _ zm_293) (fun _ h9 => h9) rfl dX5_statement_26 ?_
    refine lv_aload_n hx hb dX5_statement_29 rfl (lv_at hl 0 rfl) ?_
    refine va_get (D := D) (ci := 5) (v := .int (S 21 0)) (C := RX5) (T := TX5) (N := 41) hx hb htB ziX5 hown hK hP 0 rfl rfl 21 (by decide) (htB _ zm_294) (fun _ h9 => h9) rfl dX5_statement_30 ?_
    refine lv_iload_n hx hb dX5_statement_33 rfl (lv_at hl 1 rfl) ?_
    refine va_iast (D := D) hx hb hK hP hD hS 15 0 rfl rfl (And.left h) dX5_statement_34 (fun H locs hP hD hS => ?_)
    replace h := And.right h
    obtain ⟨S_34, eS_34⟩ : ∃ z : zT, z = (va_up S 16 (upd (S 16) (S 21 0).toNatClampNeg x1)) := ⟨_, rfl⟩
    replace h := h S_34 eS_34
    replace hP : va_P D zCl (bX5 ah cy S_34) H := by rw [eS_34]; exact hP
    replace hD : va_D A (bX5 ah cy S_34) := by rw [eS_34]; exact hD
    refine lv_aload_n hx hb dX5_statement_35 rfl (lv_at hl 0 rfl) ?_
    refine va_get (D := D) (ci := 5) (v := .ref (ah 17)) (C := RX5) (T := TX5) (N := 41) hx hb htB ziX5 hown hK hP 0 rfl rfl 17 (by decide) (htB _ zm_295) (fun _ h9 => h9) rfl dX5_statement_36 ?_
    refine lv_aload_n hx hb dX5_statement_39 rfl (lv_at hl 0 rfl) ?_
    refine va_get (D := D) (ci := 5) (v := .int (S_34 21 0)) (C := RX5) (T := TX5) (N := 41) hx hb htB ziX5 hown hK hP 0 rfl rfl 21 (by decide) (htB _ zm_294) (fun _ h9 => h9) rfl dX5_statement_40 ?_
    refine lv_aload_n hx hb dX5_statement_43 rfl (lv_at hl 0 rfl) ?_
    refine va_get (D := D) (ci := 5) (v := .int (S_34 20 0)) (C := RX5) (T := TX5) (N := 41) hx hb htB ziX5 hown hK hP 0 rfl rfl 20 (by decide) (htB _ zm_269) (fun _ h9 => h9) rfl dX5_statement_44 ?_
    refine va_iast (D := D) hx hb hK hP hD hS 16 0 rfl rfl (And.left h) dX5_statement_47 (fun H locs hP hD hS => ?_)
    replace h := And.right h
    obtain ⟨S_47, eS_47⟩ : ∃ z : zT, z = (va_up S_34 17 (upd (S_34 17) (S_34 21 0).toNatClampNeg (S_34 20 0))) := ⟨_, rfl⟩
    replace h := h S_47 eS_47
    replace hP : va_P D zCl (bX5 ah cy S_47) H := by rw [eS_47]; exact hP
    replace hD : va_D A (bX5 ah cy S_47) := by rw [eS_47]; exact hD
    refine lv_aload_n hx hb dX5_statement_48 rfl (lv_at hl 0 rfl) ?_
    refine lv_dup hx hb dX5_statement_49 rfl ?_
    refine va_get (D := D) (ci := 5) (v := .int (S_47 20 0)) (C := RX5) (T := TX5) (N := 41) hx hb htB ziX5 hown hK hP 0 rfl rfl 20 (by decide) (htB _ zm_269) (fun _ h9 => h9) rfl dX5_statement_50 ?_
    refine lv_iconst (v := (1 : Int32)) hx hb dX5_statement_53 (by decide) ?_
    refine lv_iadd hx hb dX5_statement_54 ?_
    refine va_put (D := D) (ci := 5) (v := .int ((S_47 20 0) + (1 : Int32))) (ty := .int) (C := RX5) (T := TX5) (N := 41) hx hb htB ziX5 tyX5 tyX5_ok nmX5 hown hK hP hD hS 0 rfl rfl 20 (by decide) (htB _ zm_269) (fun _ h9 => h9) rfl (tyX5_ok 20 (by decide)) rfl rfl (Nat.le_of_ble_eq_true rfl) dX5_statement_55 (fun H locs hP hD hS => ?_)
    obtain ⟨S_55, eS_55⟩ : ∃ z : zT, z = (va_up S_47 20 (fun _ => ((S_47 20 0) + (1 : Int32)))) := ⟨_, rfl⟩
    replace h := h S_55 eS_55
    replace hP : va_P D zCl (bX5 ah cy S_55) H := by rw [eS_55]; exact hP
    replace hD : va_D A (bX5 ah cy S_55) := by rw [eS_55]; exact hD
    refine lv_bipush (v := (8 : Int32)) hx hb dX5_statement_58 (by decide) ?_
    refine lv_aload_n hx hb dX5_statement_60 rfl (lv_at hl 0 rfl) ?_
    refine va_get (D := D) (ci := 5) (v := .int (S_55 21 0)) (C := RX5) (T := TX5) (N := 41) hx hb htB ziX5 hown hK hP 0 rfl rfl 21 (by decide) (htB _ zm_294) (fun _ h9 => h9) rfl dX5_statement_61 ?_
    refine lv_imul hx hb dX5_statement_64 ?_
    refine lv_topi (fun y65 ey65 => ?_)
    replace h := h y65 ey65
    refine lv_istore_n (lv' := [(2, .int y65), (0, .ref (ah 99)), (1, .int x1)]) hx hb dX5_statement_65 rfl hl (by decide) rfl (fun ls hl => ?_)
    refine lv_iload_n hx hb dX5_statement_66 rfl (lv_at hl 2 rfl) ?_
    refine lv_bipush (v := (100 : Int32)) hx hb dX5_statement_67 (by decide) ?_
    refine lv_icmp_ne (tgt := 81) hx hb dX5_statement_69 (by decide) (fun c69 => ?_) (fun c69 => ?_)
    · replace h := And.right h c69
      refine lv_iload_n hx hb dX5_statement_81 rfl (lv_at hl 2 rfl) ?_
      refine lv_bipush (v := (99 : Int32)) hx hb dX5_statement_82 (by decide) ?_
      refine lv_icmp_ne (tgt := 115) hx hb dX5_statement_84 (by decide) (fun c84 => ?_) (fun c84 => ?_)
      · replace h := And.right h c84
        refine lv_aload_n hx hb dX5_statement_115 rfl (lv_at hl 1 rfl) ?_
        refine lv_iload_n hx hb dX5_statement_116 rfl (lv_at hl 0 rfl) ?_
        refine zc_if (ws' := fun u => (bX5 ah cy u)) (va_runV (As := [.int y65]) (rest := []) ⟨hx, hb, hml, hown, htB⟩ (c_X5_readsWalker l D cy ah H.size y65 S_55 h) (cwV 1 htB (zgV zm_296 zm_298 zm_299 zm_263 zm_297) rfl rfl rfl hd_X5_readsWalker ⟨Nat.le_of_ble_eq_true rfl, Nat.le_of_ble_eq_true rfl⟩) ⟨zM_blind, va_recv hK hP (ci := 5) (q0 := 0) rfl rfl, zM_pre hP hK hN hD⟩ rfl rfl hl.1 rfl (lv_room (Nat.le_of_ble_eq_true rfl)) dX5_statement_117 ⟨Nat.zero_le _, Nat.zero_le _⟩) hS hA hP hD (fun u => rfl) (fun u => rfl) (fun r117 u H locs h hP hD hS => ?_)
        obtain ⟨S_117, eu⟩ : ∃ z, z = u := ⟨_, rfl⟩
        subst eu
        replace hP : va_P D zCl (bX5 ah cy S_117) H := hP
        replace hD : va_D A (bX5 ah cy S_117) := hD
        exact L120 r117 S_117 h H locs hP hD hS ls (lv_sub hl [1] rfl)
      · replace h := And.left h c84
        refine lv_aload_n hx hb dX5_statement_87 rfl (lv_at hl 1 rfl) ?_
        refine lv_iload_n hx hb dX5_statement_88 rfl (lv_at hl 0 rfl) ?_
        refine lv_iconst (v := (1 : Int32)) hx hb dX5_statement_89 (by decide) ?_
        refine zc_if (ws' := fun u => (bX5 ah cy u)) (va_runV (As := [.int y65, .int (1 : Int32)]) (rest := []) ⟨hx, hb, hml, hown, htB⟩ (c_X5_reads l D cy ah H.size y65 (1 : Int32) S_55 h) (cwV 2 htB (zgV zm_278 zm_280 zm_281 zm_263 zm_279) rfl rfl rfl hd_X5_reads ⟨Nat.le_of_ble_eq_true rfl, Nat.le_of_ble_eq_true rfl⟩) ⟨zM_blind, va_recv hK hP (ci := 5) (q0 := 0) rfl rfl, zM_pre hP hK hN hD⟩ rfl rfl hl.1 rfl (lv_room (Nat.le_of_ble_eq_true rfl)) dX5_statement_90 ⟨Nat.zero_le _, Nat.zero_le _⟩) hS hA hP hD (fun u => rfl) (fun u => rfl) (fun r90 u H locs h hP hD hS => ?_)
        obtain ⟨S_90, eu⟩ : ∃ z, z = u := ⟨_, rfl⟩
        subst eu
        replace hP : va_P D zCl (bX5 ah cy S_90) H := hP
        replace hD : va_D A (bX5 ah cy S_90) := hD
        refine lv_if_eq (tgt := 111) hx hb dX5_statement_93 (by decide) (fun c93 => ?_) (fun c93 => ?_)
        · replace h := And.left h c93
          exact L111 S_90 h H locs hP hD hS ls (lv_sub hl [1] rfl)
        · replace h := And.right h c93
          refine lv_aload_n hx hb dX5_statement_96 rfl (lv_at hl 1 rfl) ?_
          refine lv_iload_n hx hb dX5_statement_97 rfl (lv_at hl 0 rfl) ?_
          refine lv_iconst (v := (1 : Int32)) hx hb dX5_statement_98 (by decide) ?_
          refine lv_iadd hx hb dX5_statement_99 ?_
          refine lv_iconst (v := (2 : Int32)) hx hb dX5_statement_100 (by decide) ?_
          refine zc_if (ws' := fun u => (bX5 ah cy u)) (va_runV (As := [.int (y65 + (1 : Int32)), .int (2 : Int32)]) (rest := []) ⟨hx, hb, hml, hown, htB⟩ (c_X5_reads l D cy ah H.size (y65 + (1 : Int32)) (2 : Int32) S_90 h) (cwV 2 htB (zgV zm_278 zm_280 zm_281 zm_263 zm_279) rfl rfl rfl hd_X5_reads ⟨Nat.le_of_ble_eq_true rfl, Nat.le_of_ble_eq_true rfl⟩) ⟨zM_blind, va_recv hK hP (ci := 5) (q0 := 0) rfl rfl, zM_pre hP hK hN hD⟩ rfl rfl hl.1 rfl (lv_room (Nat.le_of_ble_eq_true rfl)) dX5_statement_101 ⟨Nat.zero_le _, Nat.zero_le _⟩) hS hA hP hD (fun u => rfl) (fun u => rfl) (fun r101 u H locs h hP hD hS => ?_)
          obtain ⟨S_101, eu⟩ : ∃ z, z = u := ⟨_, rfl⟩
          subst eu
          replace hP : va_P D zCl (bX5 ah cy S_101) H := hP
          replace hD : va_D A (bX5 ah cy S_101) := hD
          refine lv_if_eq (tgt := 111) hx hb dX5_statement_104 (by decide) (fun c104 => ?_) (fun c104 => ?_)
          · replace h := And.left h c104
            exact L111 S_101 h H locs hP hD hS ls (lv_sub hl [1] rfl)
          · replace h := And.right h c104
            refine lv_iconst (v := (1 : Int32)) hx hb dX5_statement_107 (by decide) ?_
            refine lv_goto (tgt := 120) hx hb dX5_statement_108 (by decide) ?_
            exact L120 (1 : Int32) S_101 h H locs hP hD hS ls (lv_sub hl [1] rfl)
    · replace h := And.left h c69
      refine lv_aload_n hx hb dX5_statement_72 rfl (lv_at hl 1 rfl) ?_
      refine lv_iload_n hx hb dX5_statement_73 rfl (lv_at hl 0 rfl) ?_
      refine lv_iconst (v := (3 : Int32)) hx hb dX5_statement_74 (by decide) ?_
      refine zc_if (ws' := fun u => (bX5 ah cy u)) (va_runV (As := [.int y65, .int (3 : Int32)]) (rest := []) ⟨hx, hb, hml, hown, htB⟩ (c_X5_readsOnes l D cy ah H.size y65 (3 : Int32) S_55 h) (cwV 2 htB (zgV zm_289 zm_291 zm_292 zm_263 zm_290) rfl rfl rfl hd_X5_readsOnes ⟨Nat.le_of_ble_eq_true rfl, Nat.le_of_ble_eq_true rfl⟩) ⟨zM_blind, va_recv hK hP (ci := 5) (q0 := 0) rfl rfl, zM_pre hP hK hN hD⟩ rfl rfl hl.1 rfl (lv_room (Nat.le_of_ble_eq_true rfl)) dX5_statement_75 ⟨Nat.zero_le _, Nat.zero_le _⟩) hS hA hP hD (fun u => rfl) (fun u => rfl) (fun r75 u H locs h hP hD hS => ?_)
      obtain ⟨S_75, eu⟩ : ∃ z, z = u := ⟨_, rfl⟩
      subst eu
      replace hP : va_P D zCl (bX5 ah cy S_75) H := hP
      replace hD : va_D A (bX5 ah cy S_75) := hD
      refine lv_goto (tgt := 120) hx hb dX5_statement_78 (by decide) ?_
      exact L120 r75 S_75 h H locs hP hD hS ls (lv_sub hl [1] rfl)
  refine lv_aload_n hx hb dX5_statement_0 rfl (lv_at hl 0 rfl) ?_
  refine zc_r (va_runV (As := []) (rest := []) ⟨hx, hb, hml, hown, htB⟩ (c_X5_next l D cy ah S h) (cwV 0 htB (zgV zm_270 zm_272 zm_273 zm_263 zm_271) rfl rfl rfl hd_X5_next ⟨Nat.le_of_ble_eq_true rfl, Nat.le_of_ble_eq_true rfl⟩) ⟨zR_blind, va_recv hK hP (ci := 5) (q0 := 0) rfl rfl, zR_pre hP hK hN⟩ rfl rfl hl.1 rfl (lv_room (Nat.le_of_ble_eq_true rfl)) dX5_statement_1 ⟨Nat.zero_le _, Nat.zero_le _⟩) (fun r1 h => ?_)
  refine lv_istore_n (lv' := [(1, .int r1), (0, .ref (ah 99))]) hx hb dX5_statement_4 rfl hl (by decide) rfl (fun ls hl => ?_)
  refine lv_iload_n hx hb dX5_statement_5 rfl (lv_at hl 0 rfl) ?_
  refine lv_bipush (v := (100 : Int32)) hx hb dX5_statement_6 (by decide) ?_
  refine lv_icmp_eq (tgt := 25) hx hb dX5_statement_8 (by decide) (fun c8 => ?_) (fun c8 => ?_)
  · replace h := And.left h c8
    exact L25 r1 S h H locs hP hD hS ls (lv_sub hl [1, 0] rfl)
  · replace h := And.right h c8
    refine lv_iload_n hx hb dX5_statement_11 rfl (lv_at hl 0 rfl) ?_
    refine lv_bipush (v := (99 : Int32)) hx hb dX5_statement_12 (by decide) ?_
    refine lv_icmp_eq (tgt := 25) hx hb dX5_statement_14 (by decide) (fun c14 => ?_) (fun c14 => ?_)
    · replace h := And.left h c14
      exact L25 r1 S h H locs hP hD hS ls (lv_sub hl [1, 0] rfl)
    · replace h := And.right h c14
      refine lv_iload_n hx hb dX5_statement_17 rfl (lv_at hl 0 rfl) ?_
      refine lv_bipush (v := (119 : Int32)) hx hb dX5_statement_18 (by decide) ?_
      refine lv_icmp_eq (tgt := 25) hx hb dX5_statement_20 (by decide) (fun c20 => ?_) (fun c20 => ?_)
      · replace h := And.left h c20
        exact L25 r1 S h H locs hP hD hS ls (lv_sub hl [1, 0] rfl)
      · replace h := And.right h c20
        refine lv_iconst (v := (0 : Int32)) hx hb dX5_statement_23 (by decide) ?_
        exact W.zret (v := (0 : Int32)) hx hb hr rfl (fun t ht hW => ⟨⟨_, S, rfl, h, zP_h ht hP⟩, hS.F ht⟩) hS.2.2 dX5_statement_24
set_option maxHeartbeats 4000000 in
set_option maxRecDepth 100000 in
theorem c_X5_comesWalker (l : Launch) (D : va_G) (cy : ClassId) (ah : Nat → Nat) (sz : Nat) (i1 : Int32) (S : zT) {Q : Int32 → zT → Prop} (h : wp_X5_comesWalker i1 S Q) : Met l yX5_comesWalker w_X5_comesWalker rm_X5_comesWalker (va_Pc [.ref (ah 99), .int i1] (zM D cy (bX5 ah cy S) sz)) (va_Qi (S := zT) (fun (r : Int32) (u : zT) => Q r u) (fun u t => va_P D zCl ((fun (u : zT) => (bX5 ah cy u)) u) t.heap) (va_A (bX5 ah cy S) sz)) 0 0 (va_A (bX5 ah cy S) sz) := by
  refine zOf_i (by decide) (Nat.le_of_ble_eq_true rfl) ?_
  intro p e s m below meth c ls A H locs hx hb hr hml hown htB hlocks hK hN hP hD hS hA hl
  replace hl : lv_has ls 2 [(0, .ref (ah 99)), (1, .int i1)] := hl
  refine lv_aload_n hx hb dX5_comesWalker_0 rfl (lv_at hl 0 rfl) ?_
  refine va_get (D := D) (ci := 5) (v := .int (S 13 0)) (C := RX5) (T := TX5) (N := 41) hx hb htB ziX5 hown hK hP 0 rfl rfl 13 (by decide) (htB _ zm_258) (fun _ h9 => h9) rfl dX5_comesWalker_1 ?_
  refine lv_bipush (v := (8 : Int32)) hx hb dX5_comesWalker_4 (by decide) ?_
  refine lv_icmp_eq (tgt := 66) hx hb dX5_comesWalker_6 (by decide) (fun c6 => ?_) (fun c6 => ?_)
  · replace h := And.left h c6
    refine lv_iconst (v := (0 : Int32)) hx hb dX5_comesWalker_66 (by decide) ?_
    exact W.zret (v := (0 : Int32)) hx hb hr rfl (fun t ht hW => ⟨⟨_, S, rfl, h, zP_h ht hP⟩, hS.F ht⟩) hS.2.2 dX5_comesWalker_67
  · replace h := And.right h c6
    refine lv_aload_n hx hb dX5_comesWalker_9 rfl (lv_at hl 0 rfl) ?_
    refine va_get (D := D) (ci := 5) (v := .ref (ah 18)) (C := RX5) (T := TX5) (N := 41) hx hb htB ziX5 hown hK hP 0 rfl rfl 18 (by decide) (htB _ zm_274) (fun _ h9 => h9) rfl dX5_comesWalker_10 ?_
    refine lv_iload_n hx hb dX5_comesWalker_13 rfl (lv_at hl 1 rfl) ?_
    refine lv_iconst (v := (2 : Int32)) hx hb dX5_comesWalker_14 (by decide) ?_
    refine lv_iadd hx hb dX5_comesWalker_15 ?_
    refine va_iald (D := D) hx hb hK hP 17 0 rfl rfl (And.left h) dX5_comesWalker_16 ?_
    replace h := And.right h
    refine lv_iconst (v := (1 : Int32)) hx hb dX5_comesWalker_17 (by decide) ?_
    refine lv_bipush (v := (40 : Int32)) hx hb dX5_comesWalker_18 (by decide) ?_
    have hPc : va_P D zCl ([] : va_W) H := hP.sub [] rfl
    refine zc_r (va_runS (As := [.int (S 18 (i1 + (2 : Int32)).toNatClampNeg), .int (1 : Int32), .int (40 : Int32)]) (rest := []) ⟨hx, hb, hml, hown, htB⟩ (c_X5_isIn l D cy  (S 18 (i1 + (2 : Int32)).toNatClampNeg) (1 : Int32) (40 : Int32) h) (cwS 3 htB (zgS zm_275 zm_277 zm_263 zm_276) rfl rfl rfl hd_X5_isIn ⟨Nat.le_of_ble_eq_true rfl, Nat.le_of_ble_eq_true rfl⟩) ⟨zR_blind, zR_pre hPc hK hN⟩ rfl rfl hl.1 rfl (lv_room (Nat.le_of_ble_eq_true rfl)) dX5_comesWalker_20 ⟨Nat.zero_le _, Nat.zero_le _⟩) (fun r20 h => ?_)
    refine lv_if_eq (tgt := 66) hx hb dX5_comesWalker_23 (by decide) (fun c23 => ?_) (fun c23 => ?_)
    · replace h := And.left h c23
      refine lv_iconst (v := (0 : Int32)) hx hb dX5_comesWalker_66 (by decide) ?_
      exact W.zret (v := (0 : Int32)) hx hb hr rfl (fun t ht hW => ⟨⟨_, S, rfl, h, zP_h ht hP⟩, hS.F ht⟩) hS.2.2 dX5_comesWalker_67
    · replace h := And.right h c23
      refine lv_aload_n hx hb dX5_comesWalker_26 rfl (lv_at hl 0 rfl) ?_
      refine va_get (D := D) (ci := 5) (v := .ref (ah 18)) (C := RX5) (T := TX5) (N := 41) hx hb htB ziX5 hown hK hP 0 rfl rfl 18 (by decide) (htB _ zm_274) (fun _ h9 => h9) rfl dX5_comesWalker_27 ?_
      refine lv_iload_n hx hb dX5_comesWalker_30 rfl (lv_at hl 1 rfl) ?_
      refine lv_iconst (v := (3 : Int32)) hx hb dX5_comesWalker_31 (by decide) ?_
      refine lv_iadd hx hb dX5_comesWalker_32 ?_
      refine va_iald (D := D) hx hb hK hP 17 0 rfl rfl (And.left h) dX5_comesWalker_33 ?_
      replace h := And.right h
      refine lv_iconst (v := (1 : Int32)) hx hb dX5_comesWalker_34 (by decide) ?_
      refine lv_iconst (v := (4 : Int32)) hx hb dX5_comesWalker_35 (by decide) ?_
      have hPc : va_P D zCl ([] : va_W) H := hP.sub [] rfl
      refine zc_r (va_runS (As := [.int (S 18 (i1 + (3 : Int32)).toNatClampNeg), .int (1 : Int32), .int (4 : Int32)]) (rest := []) ⟨hx, hb, hml, hown, htB⟩ (c_X5_isIn l D cy  (S 18 (i1 + (3 : Int32)).toNatClampNeg) (1 : Int32) (4 : Int32) h) (cwS 3 htB (zgS zm_275 zm_277 zm_263 zm_276) rfl rfl rfl hd_X5_isIn ⟨Nat.le_of_ble_eq_true rfl, Nat.le_of_ble_eq_true rfl⟩) ⟨zR_blind, zR_pre hPc hK hN⟩ rfl rfl hl.1 rfl (lv_room (Nat.le_of_ble_eq_true rfl)) dX5_comesWalker_36 ⟨Nat.zero_le _, Nat.zero_le _⟩) (fun r36 h => ?_)
      refine lv_if_eq (tgt := 66) hx hb dX5_comesWalker_39 (by decide) (fun c39 => ?_) (fun c39 => ?_)
      · replace h := And.left h c39
        refine lv_iconst (v := (0 : Int32)) hx hb dX5_comesWalker_66 (by decide) ?_
        exact W.zret (v := (0 : Int32)) hx hb hr rfl (fun t ht hW => ⟨⟨_, S, rfl, h, zP_h ht hP⟩, hS.F ht⟩) hS.2.2 dX5_comesWalker_67
      · replace h := And.right h c39
        refine lv_aload_n hx hb dX5_comesWalker_42 rfl (lv_at hl 0 rfl) ?_
        refine va_get (D := D) (ci := 5) (v := .ref (ah 18)) (C := RX5) (T := TX5) (N := 41) hx hb htB ziX5 hown hK hP 0 rfl rfl 18 (by decide) (htB _ zm_274) (fun _ h9 => h9) rfl dX5_comesWalker_43 ?_
        refine lv_iload_n hx hb dX5_comesWalker_46 rfl (lv_at hl 1 rfl) ?_
        refine lv_iconst (v := (4 : Int32)) hx hb dX5_comesWalker_47 (by decide) ?_
        refine lv_iadd hx hb dX5_comesWalker_48 ?_
        refine va_iald (D := D) hx hb hK hP 17 0 rfl rfl (And.left h) dX5_comesWalker_49 ?_
        replace h := And.right h
        refine lv_iconst (v := (2 : Int32)) hx hb dX5_comesWalker_50 (by decide) ?_
        refine lv_icmp_gt (tgt := 66) hx hb dX5_comesWalker_51 (by decide) (fun c51 => ?_) (fun c51 => ?_)
        · replace h := And.left h c51
          refine lv_iconst (v := (0 : Int32)) hx hb dX5_comesWalker_66 (by decide) ?_
          exact W.zret (v := (0 : Int32)) hx hb hr rfl (fun t ht hW => ⟨⟨_, S, rfl, h, zP_h ht hP⟩, hS.F ht⟩) hS.2.2 dX5_comesWalker_67
        · replace h := And.right h c51
          refine lv_aload_n hx hb dX5_comesWalker_54 rfl (lv_at hl 0 rfl) ?_
          refine va_get (D := D) (ci := 5) (v := .ref (ah 18)) (C := RX5) (T := TX5) (N := 41) hx hb htB ziX5 hown hK hP 0 rfl rfl 18 (by decide) (htB _ zm_274) (fun _ h9 => h9) rfl dX5_comesWalker_55 ?_
          refine lv_iload_n hx hb dX5_comesWalker_58 rfl (lv_at hl 1 rfl) ?_
          refine lv_iconst (v := (5 : Int32)) hx hb dX5_comesWalker_59 (by decide) ?_
          refine lv_iadd hx hb dX5_comesWalker_60 ?_
          refine va_iald (D := D) hx hb hK hP 17 0 rfl rfl (And.left h) dX5_comesWalker_61 ?_
          replace h := And.right h
          refine lv_iconst (v := (1 : Int32)) hx hb dX5_comesWalker_62 (by decide) ?_
          refine lv_icmp_le (tgt := 68) hx hb dX5_comesWalker_63 (by decide) (fun c63 => ?_) (fun c63 => ?_)
          · replace h := And.left h c63
            refine lv_aload_n hx hb dX5_comesWalker_68 rfl (lv_at hl 0 rfl) ?_
            refine va_get (D := D) (ci := 5) (v := .ref (ah 1)) (C := RX5) (T := TX5) (N := 41) hx hb htB ziX5 hown hK hP 0 rfl rfl 1 (by decide) (htB _ zm_300) (fun _ h9 => h9) rfl dX5_comesWalker_69 ?_
            refine lv_aload_n hx hb dX5_comesWalker_72 rfl (lv_at hl 0 rfl) ?_
            refine va_get (D := D) (ci := 5) (v := .int (S 13 0)) (C := RX5) (T := TX5) (N := 41) hx hb htB ziX5 hown hK hP 0 rfl rfl 13 (by decide) (htB _ zm_258) (fun _ h9 => h9) rfl dX5_comesWalker_73 ?_
            refine lv_aload_n hx hb dX5_comesWalker_76 rfl (lv_at hl 0 rfl) ?_
            refine va_get (D := D) (ci := 5) (v := .ref (ah 18)) (C := RX5) (T := TX5) (N := 41) hx hb htB ziX5 hown hK hP 0 rfl rfl 18 (by decide) (htB _ zm_274) (fun _ h9 => h9) rfl dX5_comesWalker_77 ?_
            refine lv_iload_n hx hb dX5_comesWalker_80 rfl (lv_at hl 1 rfl) ?_
            refine va_iald (D := D) hx hb hK hP 17 0 rfl rfl (And.left h) dX5_comesWalker_81 ?_
            replace h := And.right h
            refine va_iast (D := D) hx hb hK hP hD hS 2 0 rfl rfl (And.left h) dX5_comesWalker_82 (fun H locs hP hD hS => ?_)
            replace h := And.right h
            obtain ⟨S_82, eS_82⟩ : ∃ z : zT, z = (va_up S 1 (upd (S 1) (S 13 0).toNatClampNeg (S 18 i1.toNatClampNeg))) := ⟨_, rfl⟩
            replace h := h S_82 eS_82
            replace hP : va_P D zCl (bX5 ah cy S_82) H := by rw [eS_82]; exact hP
            replace hD : va_D A (bX5 ah cy S_82) := by rw [eS_82]; exact hD
            refine lv_aload_n hx hb dX5_comesWalker_83 rfl (lv_at hl 0 rfl) ?_
            refine va_get (D := D) (ci := 5) (v := .ref (ah 2)) (C := RX5) (T := TX5) (N := 41) hx hb htB ziX5 hown hK hP 0 rfl rfl 2 (by decide) (htB _ zm_301) (fun _ h9 => h9) rfl dX5_comesWalker_84 ?_
            refine lv_aload_n hx hb dX5_comesWalker_87 rfl (lv_at hl 0 rfl) ?_
            refine va_get (D := D) (ci := 5) (v := .int (S_82 13 0)) (C := RX5) (T := TX5) (N := 41) hx hb htB ziX5 hown hK hP 0 rfl rfl 13 (by decide) (htB _ zm_258) (fun _ h9 => h9) rfl dX5_comesWalker_88 ?_
            refine lv_aload_n hx hb dX5_comesWalker_91 rfl (lv_at hl 0 rfl) ?_
            refine va_get (D := D) (ci := 5) (v := .ref (ah 18)) (C := RX5) (T := TX5) (N := 41) hx hb htB ziX5 hown hK hP 0 rfl rfl 18 (by decide) (htB _ zm_274) (fun _ h9 => h9) rfl dX5_comesWalker_92 ?_
            refine lv_iload_n hx hb dX5_comesWalker_95 rfl (lv_at hl 1 rfl) ?_
            refine lv_iconst (v := (1 : Int32)) hx hb dX5_comesWalker_96 (by decide) ?_
            refine lv_iadd hx hb dX5_comesWalker_97 ?_
            refine va_iald (D := D) hx hb hK hP 17 0 rfl rfl (And.left h) dX5_comesWalker_98 ?_
            replace h := And.right h
            refine va_iast (D := D) hx hb hK hP hD hS 3 0 rfl rfl (And.left h) dX5_comesWalker_99 (fun H locs hP hD hS => ?_)
            replace h := And.right h
            obtain ⟨S_99, eS_99⟩ : ∃ z : zT, z = (va_up S_82 2 (upd (S_82 2) (S_82 13 0).toNatClampNeg (S_82 18 (i1 + (1 : Int32)).toNatClampNeg))) := ⟨_, rfl⟩
            replace h := h S_99 eS_99
            replace hP : va_P D zCl (bX5 ah cy S_99) H := by rw [eS_99]; exact hP
            replace hD : va_D A (bX5 ah cy S_99) := by rw [eS_99]; exact hD
            refine lv_aload_n hx hb dX5_comesWalker_100 rfl (lv_at hl 0 rfl) ?_
            refine va_get (D := D) (ci := 5) (v := .ref (ah 3)) (C := RX5) (T := TX5) (N := 41) hx hb htB ziX5 hown hK hP 0 rfl rfl 3 (by decide) (htB _ zm_302) (fun _ h9 => h9) rfl dX5_comesWalker_101 ?_
            refine lv_aload_n hx hb dX5_comesWalker_104 rfl (lv_at hl 0 rfl) ?_
            refine va_get (D := D) (ci := 5) (v := .int (S_99 13 0)) (C := RX5) (T := TX5) (N := 41) hx hb htB ziX5 hown hK hP 0 rfl rfl 13 (by decide) (htB _ zm_258) (fun _ h9 => h9) rfl dX5_comesWalker_105 ?_
            refine lv_aload_n hx hb dX5_comesWalker_108 rfl (lv_at hl 0 rfl) ?_
            refine va_get (D := D) (ci := 5) (v := .ref (ah 18)) (C := RX5) (T := TX5) (N := 41) hx hb htB ziX5 hown hK hP 0 rfl rfl 18 (by decide) (htB _ zm_274) (fun _ h9 => h9) rfl dX5_comesWalker_109 ?_
            refine lv_iload_n hx hb dX5_comesWalker_112 rfl (lv_at hl 1 rfl) ?_
            refine lv_iconst (v := (2 : Int32)) hx hb dX5_comesWalker_113 (by decide) ?_
            refine lv_iadd hx hb dX5_comesWalker_114 ?_
            refine va_iald (D := D) hx hb hK hP 17 0 rfl rfl (And.left h) dX5_comesWalker_115 ?_
            replace h := And.right h
            refine va_iast (D := D) hx hb hK hP hD hS 4 0 rfl rfl (And.left h) dX5_comesWalker_116 (fun H locs hP hD hS => ?_)
            replace h := And.right h
            obtain ⟨S_116, eS_116⟩ : ∃ z : zT, z = (va_up S_99 3 (upd (S_99 3) (S_99 13 0).toNatClampNeg (S_99 18 (i1 + (2 : Int32)).toNatClampNeg))) := ⟨_, rfl⟩
            replace h := h S_116 eS_116
            replace hP : va_P D zCl (bX5 ah cy S_116) H := by rw [eS_116]; exact hP
            replace hD : va_D A (bX5 ah cy S_116) := by rw [eS_116]; exact hD
            refine lv_aload_n hx hb dX5_comesWalker_117 rfl (lv_at hl 0 rfl) ?_
            refine va_get (D := D) (ci := 5) (v := .ref (ah 4)) (C := RX5) (T := TX5) (N := 41) hx hb htB ziX5 hown hK hP 0 rfl rfl 4 (by decide) (htB _ zm_303) (fun _ h9 => h9) rfl dX5_comesWalker_118 ?_
            refine lv_aload_n hx hb dX5_comesWalker_121 rfl (lv_at hl 0 rfl) ?_
            refine va_get (D := D) (ci := 5) (v := .int (S_116 13 0)) (C := RX5) (T := TX5) (N := 41) hx hb htB ziX5 hown hK hP 0 rfl rfl 13 (by decide) (htB _ zm_258) (fun _ h9 => h9) rfl dX5_comesWalker_122 ?_
            refine lv_aload_n hx hb dX5_comesWalker_125 rfl (lv_at hl 0 rfl) ?_
            refine va_get (D := D) (ci := 5) (v := .ref (ah 18)) (C := RX5) (T := TX5) (N := 41) hx hb htB ziX5 hown hK hP 0 rfl rfl 18 (by decide) (htB _ zm_274) (fun _ h9 => h9) rfl dX5_comesWalker_126 ?_
            refine lv_iload_n hx hb dX5_comesWalker_129 rfl (lv_at hl 1 rfl) ?_
            refine lv_iconst (v := (3 : Int32)) hx hb dX5_comesWalker_130 (by decide) ?_
            refine lv_iadd hx hb dX5_comesWalker_131 ?_
            refine va_iald (D := D) hx hb hK hP 17 0 rfl rfl (And.left h) dX5_comesWalker_132 ?_
            replace h := And.right h
            refine va_iast (D := D) hx hb hK hP hD hS 5 0 rfl rfl (And.left h) dX5_comesWalker_133 (fun H locs hP hD hS => ?_)
            replace h := And.right h
            obtain ⟨S_133, eS_133⟩ : ∃ z : zT, z = (va_up S_116 4 (upd (S_116 4) (S_116 13 0).toNatClampNeg (S_116 18 (i1 + (3 : Int32)).toNatClampNeg))) := ⟨_, rfl⟩
            replace h := h S_133 eS_133
            replace hP : va_P D zCl (bX5 ah cy S_133) H := by rw [eS_133]; exact hP
            replace hD : va_D A (bX5 ah cy S_133) := by rw [eS_133]; exact hD
            refine lv_aload_n hx hb dX5_comesWalker_134 rfl (lv_at hl 0 rfl) ?_
            refine va_get (D := D) (ci := 5) (v := .ref (ah 5)) (C := RX5) (T := TX5) (N := 41) hx hb htB ziX5 hown hK hP 0 rfl rfl 5 (by decide) (htB _ zm_304) (fun _ h9 => h9) rfl dX5_comesWalker_135 ?_
            refine lv_aload_n hx hb dX5_comesWalker_138 rfl (lv_at hl 0 rfl) ?_
            refine va_get (D := D) (ci := 5) (v := .int (S_133 13 0)) (C := RX5) (T := TX5) (N := 41) hx hb htB ziX5 hown hK hP 0 rfl rfl 13 (by decide) (htB _ zm_258) (fun _ h9 => h9) rfl dX5_comesWalker_139 ?_
            refine lv_aload_n hx hb dX5_comesWalker_142 rfl (lv_at hl 0 rfl) ?_
            refine va_get (D := D) (ci := 5) (v := .ref (ah 18)) (C := RX5) (T := TX5) (N := 41) hx hb htB ziX5 hown hK hP 0 rfl rfl 18 (by decide) (htB _ zm_274) (fun _ h9 => h9) rfl dX5_comesWalker_143 ?_
            refine lv_iload_n hx hb dX5_comesWalker_146 rfl (lv_at hl 1 rfl) ?_
            refine lv_iconst (v := (4 : Int32)) hx hb dX5_comesWalker_147 (by decide) ?_
            refine lv_iadd hx hb dX5_comesWalker_148 ?_
            refine va_iald (D := D) hx hb hK hP 17 0 rfl rfl (And.left h) dX5_comesWalker_149 ?_
            replace h := And.right h
            refine va_iast (D := D) hx hb hK hP hD hS 6 0 rfl rfl (And.left h) dX5_comesWalker_150 (fun H locs hP hD hS => ?_)
            replace h := And.right h
            obtain ⟨S_150, eS_150⟩ : ∃ z : zT, z = (va_up S_133 5 (upd (S_133 5) (S_133 13 0).toNatClampNeg (S_133 18 (i1 + (4 : Int32)).toNatClampNeg))) := ⟨_, rfl⟩
            replace h := h S_150 eS_150
            replace hP : va_P D zCl (bX5 ah cy S_150) H := by rw [eS_150]; exact hP
            replace hD : va_D A (bX5 ah cy S_150) := by rw [eS_150]; exact hD
            refine lv_aload_n hx hb dX5_comesWalker_151 rfl (lv_at hl 0 rfl) ?_
            refine va_get (D := D) (ci := 5) (v := .ref (ah 6)) (C := RX5) (T := TX5) (N := 41) hx hb htB ziX5 hown hK hP 0 rfl rfl 6 (by decide) (htB _ zm_305) (fun _ h9 => h9) rfl dX5_comesWalker_152 ?_
            refine lv_aload_n hx hb dX5_comesWalker_155 rfl (lv_at hl 0 rfl) ?_
            refine va_get (D := D) (ci := 5) (v := .int (S_150 13 0)) (C := RX5) (T := TX5) (N := 41) hx hb htB ziX5 hown hK hP 0 rfl rfl 13 (by decide) (htB _ zm_258) (fun _ h9 => h9) rfl dX5_comesWalker_156 ?_
            refine lv_aload_n hx hb dX5_comesWalker_159 rfl (lv_at hl 0 rfl) ?_
            refine va_get (D := D) (ci := 5) (v := .ref (ah 18)) (C := RX5) (T := TX5) (N := 41) hx hb htB ziX5 hown hK hP 0 rfl rfl 18 (by decide) (htB _ zm_274) (fun _ h9 => h9) rfl dX5_comesWalker_160 ?_
            refine lv_iload_n hx hb dX5_comesWalker_163 rfl (lv_at hl 1 rfl) ?_
            refine lv_iconst (v := (5 : Int32)) hx hb dX5_comesWalker_164 (by decide) ?_
            refine lv_iadd hx hb dX5_comesWalker_165 ?_
            refine va_iald (D := D) hx hb hK hP 17 0 rfl rfl (And.left h) dX5_comesWalker_166 ?_
            replace h := And.right h
            refine va_iast (D := D) hx hb hK hP hD hS 7 0 rfl rfl (And.left h) dX5_comesWalker_167 (fun H locs hP hD hS => ?_)
            replace h := And.right h
            obtain ⟨S_167, eS_167⟩ : ∃ z : zT, z = (va_up S_150 6 (upd (S_150 6) (S_150 13 0).toNatClampNeg (S_150 18 (i1 + (5 : Int32)).toNatClampNeg))) := ⟨_, rfl⟩
            replace h := h S_167 eS_167
            replace hP : va_P D zCl (bX5 ah cy S_167) H := by rw [eS_167]; exact hP
            replace hD : va_D A (bX5 ah cy S_167) := by rw [eS_167]; exact hD
            refine lv_aload_n hx hb dX5_comesWalker_168 rfl (lv_at hl 0 rfl) ?_
            refine va_get (D := D) (ci := 5) (v := .ref (ah 7)) (C := RX5) (T := TX5) (N := 41) hx hb htB ziX5 hown hK hP 0 rfl rfl 7 (by decide) (htB _ zm_306) (fun _ h9 => h9) rfl dX5_comesWalker_169 ?_
            refine lv_aload_n hx hb dX5_comesWalker_172 rfl (lv_at hl 0 rfl) ?_
            refine va_get (D := D) (ci := 5) (v := .int (S_167 13 0)) (C := RX5) (T := TX5) (N := 41) hx hb htB ziX5 hown hK hP 0 rfl rfl 13 (by decide) (htB _ zm_258) (fun _ h9 => h9) rfl dX5_comesWalker_173 ?_
            refine lv_aload_n hx hb dX5_comesWalker_176 rfl (lv_at hl 0 rfl) ?_
            refine va_get (D := D) (ci := 5) (v := .ref (ah 18)) (C := RX5) (T := TX5) (N := 41) hx hb htB ziX5 hown hK hP 0 rfl rfl 18 (by decide) (htB _ zm_274) (fun _ h9 => h9) rfl dX5_comesWalker_177 ?_
            refine lv_iload_n hx hb dX5_comesWalker_180 rfl (lv_at hl 1 rfl) ?_
            refine lv_bipush (v := (6 : Int32)) hx hb dX5_comesWalker_181 (by decide) ?_
            refine lv_iadd hx hb dX5_comesWalker_183 ?_
            refine va_iald (D := D) hx hb hK hP 17 0 rfl rfl (And.left h) dX5_comesWalker_184 ?_
            replace h := And.right h
            refine va_iast (D := D) hx hb hK hP hD hS 8 0 rfl rfl (And.left h) dX5_comesWalker_185 (fun H locs hP hD hS => ?_)
            replace h := And.right h
            obtain ⟨S_185, eS_185⟩ : ∃ z : zT, z = (va_up S_167 7 (upd (S_167 7) (S_167 13 0).toNatClampNeg (S_167 18 (i1 + (6 : Int32)).toNatClampNeg))) := ⟨_, rfl⟩
            replace h := h S_185 eS_185
            replace hP : va_P D zCl (bX5 ah cy S_185) H := by rw [eS_185]; exact hP
            replace hD : va_D A (bX5 ah cy S_185) := by rw [eS_185]; exact hD
            refine lv_aload_n hx hb dX5_comesWalker_186 rfl (lv_at hl 0 rfl) ?_
            refine lv_dup hx hb dX5_comesWalker_187 rfl ?_
            refine va_get (D := D) (ci := 5) (v := .int (S_185 13 0)) (C := RX5) (T := TX5) (N := 41) hx hb htB ziX5 hown hK hP 0 rfl rfl 13 (by decide) (htB _ zm_258) (fun _ h9 => h9) rfl dX5_comesWalker_188 ?_
            refine lv_iconst (v := (1 : Int32)) hx hb dX5_comesWalker_191 (by decide) ?_
            refine lv_iadd hx hb dX5_comesWalker_192 ?_
            refine va_put (D := D) (ci := 5) (v := .int ((S_185 13 0) + (1 : Int32))) (ty := .int) (C := RX5) (T := TX5) (N := 41) hx hb htB ziX5 tyX5 tyX5_ok nmX5 hown hK hP hD hS 0 rfl rfl 13 (by decide) (htB _ zm_258) (fun _ h9 => h9) rfl (tyX5_ok 13 (by decide)) rfl rfl (Nat.le_of_ble_eq_true rfl) dX5_comesWalker_193 (fun H locs hP hD hS => ?_)
            obtain ⟨S_193, eS_193⟩ : ∃ z : zT, z = (va_up S_185 13 (fun _ => ((S_185 13 0) + (1 : Int32)))) := ⟨_, rfl⟩
            replace h := h S_193 eS_193
            replace hP : va_P D zCl (bX5 ah cy S_193) H := by rw [eS_193]; exact hP
            replace hD : va_D A (bX5 ah cy S_193) := by rw [eS_193]; exact hD
            refine lv_iconst (v := (1 : Int32)) hx hb dX5_comesWalker_196 (by decide) ?_
            exact W.zret (v := (1 : Int32)) hx hb hr rfl (fun t ht hW => ⟨⟨_, S_193, rfl, h, zP_h ht hP⟩, hS.F ht⟩) hS.2.2 dX5_comesWalker_197
          · replace h := And.right h c63
            refine lv_iconst (v := (0 : Int32)) hx hb dX5_comesWalker_66 (by decide) ?_
            exact W.zret (v := (0 : Int32)) hx hb hr rfl (fun t ht hW => ⟨⟨_, S, rfl, h, zP_h ht hP⟩, hS.F ht⟩) hS.2.2 dX5_comesWalker_67
set_option maxHeartbeats 4000000 in
set_option maxRecDepth 100000 in
theorem c_X5_comesAs (l : Launch) (D : va_G) (cy : ClassId) (ah : Nat → Nat) (sz : Nat) (i1 : Int32) (S : zT) {Q : Int32 → zT → Prop} (h : wp_X5_comesAs i1 S Q) : Met l yX5_comesAs w_X5_comesAs rm_X5_comesAs (va_Pc [.ref (ah 99), .int i1] (zM D cy (bX5 ah cy S) sz)) (va_Qi (S := zT) (fun (r : Int32) (u : zT) => Q r u) (fun u t => va_P D zCl ((fun (u : zT) => (bX5 ah cy u)) u) t.heap) (va_A (bX5 ah cy S) sz)) 0 0 (va_A (bX5 ah cy S) sz) := by
  refine zOf_i (by decide) (Nat.le_of_ble_eq_true rfl) ?_
  intro p e s m below meth c ls A H locs hx hb hr hml hown htB hlocks hK hN hP hD hS hA hl
  replace hl : lv_has ls 4 [(0, .ref (ah 99)), (1, .int i1)] := hl
  have L116 : ∀ (x2 : Int32) (S : zT), wpb_X5_comesAs_116 i1 Q x2 S → ∀ (H : Heap) (locs : List Loc), va_P D zCl (bX5 ah cy S) H → va_D A (bX5 ah cy S) → va_S A s.heap H locs → ∀ ls : Array Slot, lv_has ls 4 [(0, .ref (ah 99)), (2, .int x2)] → W p l e rm_X5_comesAs s m ([.ref (ah 99), .int i1] : List Value).toArray below meth c H locs 0 0 (MQ below (va_Qi (S := zT) (fun (r : Int32) (u : zT) => Q r u) (fun u t => va_P D zCl ((fun (u : zT) => (bX5 ah cy u)) u) t.heap) A) ([.ref (ah 99), .int i1] : List Value).toArray s 0 0 A) (F0 m 116 ls []) := by
    intro x2 S h H locs hP hD hS ls hl
    refine lv_aload_n hx hb dX5_comesAs_116 rfl (lv_at hl 0 rfl) ?_
    refine va_get (D := D) (ci := 5) (v := .ref (ah 18)) (C := RX5) (T := TX5) (N := 41) hx hb htB ziX5 hown hK hP 0 rfl rfl 18 (by decide) (htB _ zm_274) (fun _ h9 => h9) rfl dX5_comesAs_117 ?_
    refine lv_iload_n hx hb dX5_comesAs_120 rfl (lv_at hl 1 rfl) ?_
    refine va_iald (D := D) hx hb hK hP 17 0 rfl rfl (And.left h) dX5_comesAs_121 ?_
    replace h := And.right h
    refine lv_if_le (tgt := 129) hx hb dX5_comesAs_122 (by decide) (fun c122 => ?_) (fun c122 => ?_)
    · replace h := And.left h c122
      refine lv_iconst (v := (0 : Int32)) hx hb dX5_comesAs_129 (by decide) ?_
      exact W.zret (v := (0 : Int32)) hx hb hr rfl (fun t ht hW => ⟨⟨_, S, rfl, h, zP_h ht hP⟩, hS.F ht⟩) hS.2.2 dX5_comesAs_130
    · replace h := And.right h c122
      refine lv_iconst (v := (1 : Int32)) hx hb dX5_comesAs_125 (by decide) ?_
      refine lv_goto (tgt := 130) hx hb dX5_comesAs_126 (by decide) ?_
      exact W.zret (v := (1 : Int32)) hx hb hr rfl (fun t ht hW => ⟨⟨_, S, rfl, h, zP_h ht hP⟩, hS.F ht⟩) hS.2.2 dX5_comesAs_130
  have L91 : ∀ (k91 : Nat) (x2 : Int32) (x3 : Int32) (S : zT), wpl_X5_comesAs_91 i1 Q k91 x2 x3 S → ∀ (H : Heap) (locs : List Loc), va_P D zCl (bX5 ah cy S) H → va_D A (bX5 ah cy S) → va_S A s.heap H locs → ∀ ls : Array Slot, lv_has ls 4 [(0, .ref (ah 99)), (2, .int x2), (3, .int x3)] → W p l e rm_X5_comesAs s m ([.ref (ah 99), .int i1] : List Value).toArray below meth c H locs 0 0 (MQ below (va_Qi (S := zT) (fun (r : Int32) (u : zT) => Q r u) (fun u t => va_P D zCl ((fun (u : zT) => (bX5 ah cy u)) u) t.heap) A) ([.ref (ah 99), .int i1] : List Value).toArray s 0 0 A) (F0 m 91 ls []) := by
    intro k91
    induction k91 with
    | zero => exact fun x2 x3 S h => False.elim h
    | succ k91 ih91 =>
      intro x2 x3 S h H locs hP hD hS ls hl
      refine lv_iload_n hx hb dX5_comesAs_91 rfl (lv_at hl 2 rfl) ?_
      refine lv_iconst (v := (3 : Int32)) hx hb dX5_comesAs_92 (by decide) ?_
      refine lv_icmp_ge (tgt := 116) hx hb dX5_comesAs_93 (by decide) (fun c93 => ?_) (fun c93 => ?_)
      · replace h := And.left h c93
        exact L116 x2 S h H locs hP hD hS ls (lv_sub hl [0, 1] rfl)
      · replace h := And.right h c93
        refine lv_aload_n hx hb dX5_comesAs_96 rfl (lv_at hl 0 rfl) ?_
        refine va_get (D := D) (ci := 5) (v := .ref (ah 8)) (C := RX5) (T := TX5) (N := 41) hx hb htB ziX5 hown hK hP 0 rfl rfl 8 (by decide) (htB _ zm_307) (fun _ h9 => h9) rfl dX5_comesAs_97 ?_
        refine lv_iload_n hx hb dX5_comesAs_100 rfl (lv_at hl 2 rfl) ?_
        refine lv_aload_n hx hb dX5_comesAs_101 rfl (lv_at hl 0 rfl) ?_
        refine va_get (D := D) (ci := 5) (v := .ref (ah 18)) (C := RX5) (T := TX5) (N := 41) hx hb htB ziX5 hown hK hP 0 rfl rfl 18 (by decide) (htB _ zm_274) (fun _ h9 => h9) rfl dX5_comesAs_102 ?_
        refine lv_iload_n hx hb dX5_comesAs_105 rfl (lv_at hl 1 rfl) ?_
        refine lv_iload_n hx hb dX5_comesAs_106 rfl (lv_at hl 2 rfl) ?_
        refine lv_iadd hx hb dX5_comesAs_107 ?_
        refine va_iald (D := D) hx hb hK hP 17 0 rfl rfl (And.left h) dX5_comesAs_108 ?_
        replace h := And.right h
        refine va_iast (D := D) hx hb hK hP hD hS 9 0 rfl rfl (And.left h) dX5_comesAs_109 (fun H locs hP hD hS => ?_)
        replace h := And.right h
        obtain ⟨S_109, eS_109⟩ : ∃ z : zT, z = (va_up S 8 (upd (S 8) x3.toNatClampNeg (S 18 (x2 + x3).toNatClampNeg))) := ⟨_, rfl⟩
        replace h := h S_109 eS_109
        replace hP : va_P D zCl (bX5 ah cy S_109) H := by rw [eS_109]; exact hP
        replace hD : va_D A (bX5 ah cy S_109) := by rw [eS_109]; exact hD
        obtain ⟨y110, ey110⟩ : ∃ z : Int32, z = (x3 + (1 : Int32)) := ⟨_, rfl⟩
        replace h := h y110 ey110
        refine lv_iinc (v := y110) (lv' := [(3, .int y110), (0, .ref (ah 99)), (2, .int x2)]) hx hb dX5_comesAs_110 hl (k := 2) rfl (by rw [ey110]; rfl) (by decide) rfl (fun ls hl => ?_)
        refine lv_goto (tgt := 91) hx hb dX5_comesAs_113 (by decide) ?_
        exact ih91 x2 y110 S_109 h H locs hP hD hS ls (lv_sub hl [1, 2, 0] rfl)
  refine lv_bipush (v := (8 : Int32)) hx hb dX5_comesAs_0 (by decide) ?_
  refine lv_iload_n hx hb dX5_comesAs_2 rfl (lv_at hl 1 rfl) ?_
  refine lv_imul hx hb dX5_comesAs_3 ?_
  refine lv_topi (fun y4 ey4 => ?_)
  replace h := h y4 ey4
  refine lv_istore_n (lv' := [(2, .int y4), (0, .ref (ah 99)), (1, .int i1)]) hx hb dX5_comesAs_4 rfl hl (by decide) rfl (fun ls hl => ?_)
  refine lv_aload_n hx hb dX5_comesAs_5 rfl (lv_at hl 1 rfl) ?_
  refine va_get (D := D) (ci := 5) (v := .ref (ah 16)) (C := RX5) (T := TX5) (N := 41) hx hb htB ziX5 hown hK hP 0 rfl rfl 16 (by decide) (htB _ zm_293) (fun _ h9 => h9) rfl dX5_comesAs_6 ?_
  refine lv_iload_n hx hb dX5_comesAs_9 rfl (lv_at hl 2 rfl) ?_
  refine va_iald (D := D) hx hb hK hP 15 0 rfl rfl (And.left h) dX5_comesAs_10 ?_
  replace h := And.right h
  refine lv_bipush (v := (119 : Int32)) hx hb dX5_comesAs_11 (by decide) ?_
  refine lv_icmp_ne (tgt := 22) hx hb dX5_comesAs_13 (by decide) (fun c13 => ?_) (fun c13 => ?_)
  · replace h := And.right h c13
    refine lv_aload_n hx hb dX5_comesAs_22 rfl (lv_at hl 1 rfl) ?_
    refine va_get (D := D) (ci := 5) (v := .ref (ah 16)) (C := RX5) (T := TX5) (N := 41) hx hb htB ziX5 hown hK hP 0 rfl rfl 16 (by decide) (htB _ zm_293) (fun _ h9 => h9) rfl dX5_comesAs_23 ?_
    refine lv_iload_n hx hb dX5_comesAs_26 rfl (lv_at hl 2 rfl) ?_
    refine va_iald (D := D) hx hb hK hP 15 0 rfl rfl (And.left h) dX5_comesAs_27 ?_
    replace h := And.right h
    refine lv_bipush (v := (99 : Int32)) hx hb dX5_comesAs_28 (by decide) ?_
    refine lv_icmp_ne (tgt := 89) hx hb dX5_comesAs_30 (by decide) (fun c30 => ?_) (fun c30 => ?_)
    · replace h := And.right h c30
      refine lv_iconst (v := (0 : Int32)) hx hb dX5_comesAs_89 (by decide) ?_
      refine lv_istore_n (lv' := [(3, .int (0 : Int32)), (2, .int y4), (0, .ref (ah 99)), (1, .int i1)]) hx hb dX5_comesAs_90 rfl hl (by decide) rfl (fun ls hl => ?_)
      obtain ⟨nn, h⟩ := h
      exact L91 nn y4 (0 : Int32) S h H locs hP hD hS ls (lv_sub hl [2, 1, 0] rfl)
    · replace h := And.left h c30
      refine lv_aload_n hx hb dX5_comesAs_33 rfl (lv_at hl 1 rfl) ?_
      refine va_get (D := D) (ci := 5) (v := .ref (ah 8)) (C := RX5) (T := TX5) (N := 41) hx hb htB ziX5 hown hK hP 0 rfl rfl 8 (by decide) (htB _ zm_307) (fun _ h9 => h9) rfl dX5_comesAs_34 ?_
      refine lv_iconst (v := (4 : Int32)) hx hb dX5_comesAs_37 (by decide) ?_
      refine lv_aload_n hx hb dX5_comesAs_38 rfl (lv_at hl 1 rfl) ?_
      refine va_get (D := D) (ci := 5) (v := .ref (ah 18)) (C := RX5) (T := TX5) (N := 41) hx hb htB ziX5 hown hK hP 0 rfl rfl 18 (by decide) (htB _ zm_274) (fun _ h9 => h9) rfl dX5_comesAs_39 ?_
      refine lv_iload_n hx hb dX5_comesAs_42 rfl (lv_at hl 0 rfl) ?_
      refine va_iald (D := D) hx hb hK hP 17 0 rfl rfl (And.left h) dX5_comesAs_43 ?_
      replace h := And.right h
      refine va_iast (D := D) hx hb hK hP hD hS 9 0 rfl rfl (And.left h) dX5_comesAs_44 (fun H locs hP hD hS => ?_)
      replace h := And.right h
      obtain ⟨S_44, eS_44⟩ : ∃ z : zT, z = (va_up S 8 (upd (S 8) (4 : Int32).toNatClampNeg (S 18 y4.toNatClampNeg))) := ⟨_, rfl⟩
      replace h := h S_44 eS_44
      replace hP : va_P D zCl (bX5 ah cy S_44) H := by rw [eS_44]; exact hP
      replace hD : va_D A (bX5 ah cy S_44) := by rw [eS_44]; exact hD
      refine lv_aload_n hx hb dX5_comesAs_45 rfl (lv_at hl 1 rfl) ?_
      refine va_get (D := D) (ci := 5) (v := .ref (ah 8)) (C := RX5) (T := TX5) (N := 41) hx hb htB ziX5 hown hK hP 0 rfl rfl 8 (by decide) (htB _ zm_307) (fun _ h9 => h9) rfl dX5_comesAs_46 ?_
      refine lv_iconst (v := (3 : Int32)) hx hb dX5_comesAs_49 (by decide) ?_
      refine lv_aload_n hx hb dX5_comesAs_50 rfl (lv_at hl 1 rfl) ?_
      refine va_get (D := D) (ci := 5) (v := .ref (ah 18)) (C := RX5) (T := TX5) (N := 41) hx hb htB ziX5 hown hK hP 0 rfl rfl 18 (by decide) (htB _ zm_274) (fun _ h9 => h9) rfl dX5_comesAs_51 ?_
      refine lv_iload_n hx hb dX5_comesAs_54 rfl (lv_at hl 0 rfl) ?_
      refine lv_iconst (v := (1 : Int32)) hx hb dX5_comesAs_55 (by decide) ?_
      refine lv_iadd hx hb dX5_comesAs_56 ?_
      refine va_iald (D := D) hx hb hK hP 17 0 rfl rfl (And.left h) dX5_comesAs_57 ?_
      replace h := And.right h
      refine va_iast (D := D) hx hb hK hP hD hS 9 0 rfl rfl (And.left h) dX5_comesAs_58 (fun H locs hP hD hS => ?_)
      replace h := And.right h
      obtain ⟨S_58, eS_58⟩ : ∃ z : zT, z = (va_up S_44 8 (upd (S_44 8) (3 : Int32).toNatClampNeg (S_44 18 (y4 + (1 : Int32)).toNatClampNeg))) := ⟨_, rfl⟩
      replace h := h S_58 eS_58
      replace hP : va_P D zCl (bX5 ah cy S_58) H := by rw [eS_58]; exact hP
      replace hD : va_D A (bX5 ah cy S_58) := by rw [eS_58]; exact hD
      refine lv_aload_n hx hb dX5_comesAs_59 rfl (lv_at hl 1 rfl) ?_
      refine va_get (D := D) (ci := 5) (v := .ref (ah 18)) (C := RX5) (T := TX5) (N := 41) hx hb htB ziX5 hown hK hP 0 rfl rfl 18 (by decide) (htB _ zm_274) (fun _ h9 => h9) rfl dX5_comesAs_60 ?_
      refine lv_iload_n hx hb dX5_comesAs_63 rfl (lv_at hl 0 rfl) ?_
      refine va_iald (D := D) hx hb hK hP 17 0 rfl rfl (And.left h) dX5_comesAs_64 ?_
      replace h := And.right h
      refine lv_bipush (v := (7 : Int32)) hx hb dX5_comesAs_65 (by decide) ?_
      refine lv_icmp_ge (tgt := 87) hx hb dX5_comesAs_67 (by decide) (fun c67 => ?_) (fun c67 => ?_)
      · replace h := And.left h c67
        refine lv_iconst (v := (0 : Int32)) hx hb dX5_comesAs_87 (by decide) ?_
        exact W.zret (v := (0 : Int32)) hx hb hr rfl (fun t ht hW => ⟨⟨_, S_58, rfl, h, zP_h ht hP⟩, hS.F ht⟩) hS.2.2 dX5_comesAs_88
      · replace h := And.right h c67
        refine lv_aload_n hx hb dX5_comesAs_70 rfl (lv_at hl 1 rfl) ?_
        refine va_get (D := D) (ci := 5) (v := .ref (ah 18)) (C := RX5) (T := TX5) (N := 41) hx hb htB ziX5 hown hK hP 0 rfl rfl 18 (by decide) (htB _ zm_274) (fun _ h9 => h9) rfl dX5_comesAs_71 ?_
        refine lv_iload_n hx hb dX5_comesAs_74 rfl (lv_at hl 0 rfl) ?_
        refine lv_iconst (v := (1 : Int32)) hx hb dX5_comesAs_75 (by decide) ?_
        refine lv_iadd hx hb dX5_comesAs_76 ?_
        refine va_iald (D := D) hx hb hK hP 17 0 rfl rfl (And.left h) dX5_comesAs_77 ?_
        replace h := And.right h
        refine lv_bipush (v := (40 : Int32)) hx hb dX5_comesAs_78 (by decide) ?_
        refine lv_icmp_gt (tgt := 87) hx hb dX5_comesAs_80 (by decide) (fun c80 => ?_) (fun c80 => ?_)
        · replace h := And.left h c80
          refine lv_iconst (v := (0 : Int32)) hx hb dX5_comesAs_87 (by decide) ?_
          exact W.zret (v := (0 : Int32)) hx hb hr rfl (fun t ht hW => ⟨⟨_, S_58, rfl, h, zP_h ht hP⟩, hS.F ht⟩) hS.2.2 dX5_comesAs_88
        · replace h := And.right h c80
          refine lv_iconst (v := (1 : Int32)) hx hb dX5_comesAs_83 (by decide) ?_
          refine lv_goto (tgt := 88) hx hb dX5_comesAs_84 (by decide) ?_
          exact W.zret (v := (1 : Int32)) hx hb hr rfl (fun t ht hW => ⟨⟨_, S_58, rfl, h, zP_h ht hP⟩, hS.F ht⟩) hS.2.2 dX5_comesAs_88
  · replace h := And.left h c13
    refine lv_aload_n hx hb dX5_comesAs_16 rfl (lv_at hl 1 rfl) ?_
    refine lv_iload_n hx hb dX5_comesAs_17 rfl (lv_at hl 0 rfl) ?_
    refine zc_if (ws' := fun u => (bX5 ah cy u)) (va_runV (As := [.int y4]) (rest := []) ⟨hx, hb, hml, hown, htB⟩ (c_X5_comesWalker l D cy ah H.size y4 S h) (cwV 1 htB (zgV zm_308 zm_310 zm_311 zm_263 zm_309) rfl rfl rfl hd_X5_comesWalker ⟨Nat.le_of_ble_eq_true rfl, Nat.le_of_ble_eq_true rfl⟩) ⟨zM_blind, va_recv hK hP (ci := 5) (q0 := 0) rfl rfl, zM_pre hP hK hN hD⟩ rfl rfl hl.1 rfl (lv_room (Nat.le_of_ble_eq_true rfl)) dX5_comesAs_18 ⟨Nat.zero_le _, Nat.zero_le _⟩) hS hA hP hD (fun u => rfl) (fun u => rfl) (fun r18 u H locs h hP hD hS => ?_)
    obtain ⟨S_18, eu⟩ : ∃ z, z = u := ⟨_, rfl⟩
    subst eu
    replace hP : va_P D zCl (bX5 ah cy S_18) H := hP
    replace hD : va_D A (bX5 ah cy S_18) := hD
    have hz := And.left h
    replace h := And.right h
    exact W.zret (v := r18) hx hb hr hz (fun t ht hW => ⟨⟨_, S_18, rfl, h, zP_h ht hP⟩, hS.F ht⟩) hS.2.2 dX5_comesAs_21
set_option maxHeartbeats 4000000 in
set_option maxRecDepth 100000 in
theorem c_X5_passes_k1 (l : Launch) (D : va_G) (cy : ClassId) (ah : Nat → Nat) (sz : Nat) (S : zT) {Q : zT → Prop} (h : wp_X5_passes_k1 S Q) : Met l yX5_passes w_X5_passes rm_X5_passes_k1 (va_Pc [.ref (ah 99), .ref (ah 1)] (zM D cy (bX5 ah cy S) sz)) (va_Qv (S := zT) (fun (u : zT) => Q u) (fun u t => va_P D zCl ((fun (u : zT) => (bX5 ah cy u)) u) t.heap) (va_A (bX5 ah cy S) sz)) 0 0 (va_A (bX5 ah cy S) sz) := by
  refine zOf_v (by decide) (Nat.le_of_ble_eq_true rfl) ?_
  intro p e s m below meth c ls A H locs hx hb hr hml hown htB hlocks hK hN hP hD hS hA hl
  replace hl : lv_has ls 3 [(0, .ref (ah 99)), (1, .ref (ah 1))] := hl
  have L2 : ∀ (k2 : Nat) (x2 : Int32) (S : zT), wpl_X5_passes_k1_2 Q k2 x2 S → ∀ (H : Heap) (locs : List Loc), va_P D zCl (bX5 ah cy S) H → va_D A (bX5 ah cy S) → va_S A s.heap H locs → ∀ ls : Array Slot, lv_has ls 3 [(0, .ref (ah 99)), (1, .ref (ah 1)), (2, .int x2)] → W p l e rm_X5_passes_k1 s m ([.ref (ah 99), .ref (ah 1)] : List Value).toArray below meth c H locs 0 0 (MQ below (va_Qv (S := zT) (fun (u : zT) => Q u) (fun u t => va_P D zCl ((fun (u : zT) => (bX5 ah cy u)) u) t.heap) A) ([.ref (ah 99), .ref (ah 1)] : List Value).toArray s 0 0 A) (F0 m 2 ls []) := by
    intro k2
    induction k2 with
    | zero => exact fun x2 S h => False.elim h
    | succ k2 ih2 =>
      have L42 : ∀ (x2 : Int32) (S : zT), wpb_X5_passes_k1_42 Q (wpl_X5_passes_k1_2 Q k2) x2 S → ∀ (H : Heap) (locs : List Loc), va_P D zCl (bX5 ah cy S) H → va_D A (bX5 ah cy S) → va_S A s.heap H locs → ∀ ls : Array Slot, lv_has ls 3 [(0, .ref (ah 99)), (1, .ref (ah 1)), (2, .int x2)] → W p l e rm_X5_passes_k1 s m ([.ref (ah 99), .ref (ah 1)] : List Value).toArray below meth c H locs 0 0 (MQ below (va_Qv (S := zT) (fun (u : zT) => Q u) (fun u t => va_P D zCl ((fun (u : zT) => (bX5 ah cy u)) u) t.heap) A) ([.ref (ah 99), .ref (ah 1)] : List Value).toArray s 0 0 A) (F0 m 42 ls []) := by
        intro x2 S h H locs hP hD hS ls hl
        refine lv_aload_n hx hb dX5_passes_42 rfl (lv_at hl 0 rfl) ?_
        refine lv_dup hx hb dX5_passes_43 rfl ?_
        refine va_get (D := D) (ci := 5) (v := .int (S 25 0)) (C := RX5) (T := TX5) (N := 41) hx hb htB ziX5 hown hK hP 0 rfl rfl 25 (by decide) (htB _ zm_312) (fun _ h9 => h9) rfl dX5_passes_44 ?_
        refine lv_iconst (v := (1 : Int32)) hx hb dX5_passes_47 (by decide) ?_
        refine lv_iadd hx hb dX5_passes_48 ?_
        refine va_put (D := D) (ci := 5) (v := .int ((S 25 0) + (1 : Int32))) (ty := .int) (C := RX5) (T := TX5) (N := 41) hx hb htB ziX5 tyX5 tyX5_ok nmX5 hown hK hP hD hS 0 rfl rfl 25 (by decide) (htB _ zm_312) (fun _ h9 => h9) rfl (tyX5_ok 25 (by decide)) rfl rfl (Nat.le_of_ble_eq_true rfl) dX5_passes_49 (fun H locs hP hD hS => ?_)
        obtain ⟨S_49, eS_49⟩ : ∃ z : zT, z = (va_up S 25 (fun _ => ((S 25 0) + (1 : Int32)))) := ⟨_, rfl⟩
        replace h := h S_49 eS_49
        replace hP : va_P D zCl (bX5 ah cy S_49) H := by rw [eS_49]; exact hP
        replace hD : va_D A (bX5 ah cy S_49) := by rw [eS_49]; exact hD
        obtain ⟨y52, ey52⟩ : ∃ z : Int32, z = (x2 + (1 : Int32)) := ⟨_, rfl⟩
        replace h := h y52 ey52
        refine lv_iinc (v := y52) (lv' := [(2, .int y52), (0, .ref (ah 99)), (1, .ref (ah 1))]) hx hb dX5_passes_52 hl (k := 2) rfl (by rw [ey52]; rfl) (by decide) rfl (fun ls hl => ?_)
        refine lv_goto (tgt := 2) hx hb dX5_passes_55 (by decide) ?_
        exact ih2 y52 S_49 h H locs hP hD hS ls (lv_sub hl [1, 2, 0] rfl)
      intro x2 S h H locs hP hD hS ls hl
      refine lv_iload_n hx hb dX5_passes_2 rfl (lv_at hl 2 rfl) ?_
      refine lv_aload_n hx hb dX5_passes_3 rfl (lv_at hl 1 rfl) ?_
      refine va_alen (D := D) (v := (8 : Int32)) hx hb hK hP 2 0 rfl rfl rfl dX5_passes_4 ?_
      refine lv_icmp_ge (tgt := 58) hx hb dX5_passes_5 (by decide) (fun c5 => ?_) (fun c5 => ?_)
      · replace h := And.left h c5
        exact W.vret hx hb hr (fun t ht hW => ⟨⟨S, rfl, h, zP_h ht hP⟩, hS.F ht⟩) hS.2.2 dX5_passes_58
      · replace h := And.right h c5
        refine lv_aload_n hx hb dX5_passes_8 rfl (lv_at hl 0 rfl) ?_
        refine va_get (D := D) (ci := 5) (v := .int (S 24 0)) (C := RX5) (T := TX5) (N := 41) hx hb htB ziX5 hown hK hP 0 rfl rfl 24 (by decide) (htB _ zm_313) (fun _ h9 => h9) rfl dX5_passes_9 ?_
        refine lv_if_eq (tgt := 30) hx hb dX5_passes_12 (by decide) (fun c12 => ?_) (fun c12 => ?_)
        · replace h := And.left h c12
          refine lv_aload_n hx hb dX5_passes_30 rfl (lv_at hl 1 rfl) ?_
          refine lv_iload_n hx hb dX5_passes_31 rfl (lv_at hl 2 rfl) ?_
          refine lv_aload_n hx hb dX5_passes_32 rfl (lv_at hl 0 rfl) ?_
          refine va_get (D := D) (ci := 5) (v := .ref (ah 22)) (C := RX5) (T := TX5) (N := 41) hx hb htB ziX5 hown hK hP 0 rfl rfl 22 (by decide) (htB _ zm_314) (fun _ h9 => h9) rfl dX5_passes_33 ?_
          refine lv_aload_n hx hb dX5_passes_36 rfl (lv_at hl 0 rfl) ?_
          refine va_get (D := D) (ci := 5) (v := .int (S 25 0)) (C := RX5) (T := TX5) (N := 41) hx hb htB ziX5 hown hK hP 0 rfl rfl 25 (by decide) (htB _ zm_312) (fun _ h9 => h9) rfl dX5_passes_37 ?_
          refine va_iald (D := D) hx hb hK hP 18 0 rfl rfl (And.left h) dX5_passes_40 ?_
          replace h := And.right h
          refine va_iast (D := D) hx hb hK hP hD hS 2 0 rfl rfl (And.left h) dX5_passes_41 (fun H locs hP hD hS => ?_)
          replace h := And.right h
          obtain ⟨S_41, eS_41⟩ : ∃ z : zT, z = (va_up S 1 (upd (S 1) x2.toNatClampNeg (S 22 (S 25 0).toNatClampNeg))) := ⟨_, rfl⟩
          replace h := h S_41 eS_41
          replace hP : va_P D zCl (bX5 ah cy S_41) H := by rw [eS_41]; exact hP
          replace hD : va_D A (bX5 ah cy S_41) := by rw [eS_41]; exact hD
          exact L42 x2 S_41 h H locs hP hD hS ls (lv_sub hl [0, 1, 2] rfl)
        · replace h := And.right h c12
          refine lv_aload_n hx hb dX5_passes_15 rfl (lv_at hl 0 rfl) ?_
          refine va_get (D := D) (ci := 5) (v := .ref (ah 22)) (C := RX5) (T := TX5) (N := 41) hx hb htB ziX5 hown hK hP 0 rfl rfl 22 (by decide) (htB _ zm_314) (fun _ h9 => h9) rfl dX5_passes_16 ?_
          refine lv_aload_n hx hb dX5_passes_19 rfl (lv_at hl 0 rfl) ?_
          refine va_get (D := D) (ci := 5) (v := .int (S 25 0)) (C := RX5) (T := TX5) (N := 41) hx hb htB ziX5 hown hK hP 0 rfl rfl 25 (by decide) (htB _ zm_312) (fun _ h9 => h9) rfl dX5_passes_20 ?_
          refine lv_aload_n hx hb dX5_passes_23 rfl (lv_at hl 1 rfl) ?_
          refine lv_iload_n hx hb dX5_passes_24 rfl (lv_at hl 2 rfl) ?_
          refine va_iald (D := D) hx hb hK hP 2 0 rfl rfl (And.left h) dX5_passes_25 ?_
          replace h := And.right h
          refine va_iast (D := D) hx hb hK hP hD hS 18 0 rfl rfl (And.left h) dX5_passes_26 (fun H locs hP hD hS => ?_)
          replace h := And.right h
          obtain ⟨S_26, eS_26⟩ : ∃ z : zT, z = (va_up S 22 (upd (S 22) (S 25 0).toNatClampNeg (S 1 x2.toNatClampNeg))) := ⟨_, rfl⟩
          replace h := h S_26 eS_26
          replace hP : va_P D zCl (bX5 ah cy S_26) H := by rw [eS_26]; exact hP
          replace hD : va_D A (bX5 ah cy S_26) := by rw [eS_26]; exact hD
          refine lv_goto (tgt := 42) hx hb dX5_passes_27 (by decide) ?_
          exact L42 x2 S_26 h H locs hP hD hS ls (lv_sub hl [0, 1, 2] rfl)
  refine lv_iconst (v := (0 : Int32)) hx hb dX5_passes_0 (by decide) ?_
  refine lv_istore_n (lv' := [(2, .int (0 : Int32)), (0, .ref (ah 99)), (1, .ref (ah 1))]) hx hb dX5_passes_1 rfl hl (by decide) rfl (fun ls hl => ?_)
  obtain ⟨nn, h⟩ := h
  exact L2 nn (0 : Int32) S h H locs hP hD hS ls (lv_sub hl [1, 2, 0] rfl)
set_option maxHeartbeats 4000000 in
set_option maxRecDepth 100000 in
theorem c_X5_passes_k2 (l : Launch) (D : va_G) (cy : ClassId) (ah : Nat → Nat) (sz : Nat) (S : zT) {Q : zT → Prop} (h : wp_X5_passes_k2 S Q) : Met l yX5_passes w_X5_passes rm_X5_passes_k2 (va_Pc [.ref (ah 99), .ref (ah 2)] (zM D cy (bX5 ah cy S) sz)) (va_Qv (S := zT) (fun (u : zT) => Q u) (fun u t => va_P D zCl ((fun (u : zT) => (bX5 ah cy u)) u) t.heap) (va_A (bX5 ah cy S) sz)) 0 0 (va_A (bX5 ah cy S) sz) := by
  refine zOf_v (by decide) (Nat.le_of_ble_eq_true rfl) ?_
  intro p e s m below meth c ls A H locs hx hb hr hml hown htB hlocks hK hN hP hD hS hA hl
  replace hl : lv_has ls 3 [(0, .ref (ah 99)), (1, .ref (ah 2))] := hl
  have L2 : ∀ (k2 : Nat) (x2 : Int32) (S : zT), wpl_X5_passes_k2_2 Q k2 x2 S → ∀ (H : Heap) (locs : List Loc), va_P D zCl (bX5 ah cy S) H → va_D A (bX5 ah cy S) → va_S A s.heap H locs → ∀ ls : Array Slot, lv_has ls 3 [(0, .ref (ah 99)), (1, .ref (ah 2)), (2, .int x2)] → W p l e rm_X5_passes_k2 s m ([.ref (ah 99), .ref (ah 2)] : List Value).toArray below meth c H locs 0 0 (MQ below (va_Qv (S := zT) (fun (u : zT) => Q u) (fun u t => va_P D zCl ((fun (u : zT) => (bX5 ah cy u)) u) t.heap) A) ([.ref (ah 99), .ref (ah 2)] : List Value).toArray s 0 0 A) (F0 m 2 ls []) := by
    intro k2
    induction k2 with
    | zero => exact fun x2 S h => False.elim h
    | succ k2 ih2 =>
      have L42 : ∀ (x2 : Int32) (S : zT), wpb_X5_passes_k2_42 Q (wpl_X5_passes_k2_2 Q k2) x2 S → ∀ (H : Heap) (locs : List Loc), va_P D zCl (bX5 ah cy S) H → va_D A (bX5 ah cy S) → va_S A s.heap H locs → ∀ ls : Array Slot, lv_has ls 3 [(0, .ref (ah 99)), (1, .ref (ah 2)), (2, .int x2)] → W p l e rm_X5_passes_k2 s m ([.ref (ah 99), .ref (ah 2)] : List Value).toArray below meth c H locs 0 0 (MQ below (va_Qv (S := zT) (fun (u : zT) => Q u) (fun u t => va_P D zCl ((fun (u : zT) => (bX5 ah cy u)) u) t.heap) A) ([.ref (ah 99), .ref (ah 2)] : List Value).toArray s 0 0 A) (F0 m 42 ls []) := by
        intro x2 S h H locs hP hD hS ls hl
        refine lv_aload_n hx hb dX5_passes_42 rfl (lv_at hl 0 rfl) ?_
        refine lv_dup hx hb dX5_passes_43 rfl ?_
        refine va_get (D := D) (ci := 5) (v := .int (S 25 0)) (C := RX5) (T := TX5) (N := 41) hx hb htB ziX5 hown hK hP 0 rfl rfl 25 (by decide) (htB _ zm_312) (fun _ h9 => h9) rfl dX5_passes_44 ?_
        refine lv_iconst (v := (1 : Int32)) hx hb dX5_passes_47 (by decide) ?_
        refine lv_iadd hx hb dX5_passes_48 ?_
        refine va_put (D := D) (ci := 5) (v := .int ((S 25 0) + (1 : Int32))) (ty := .int) (C := RX5) (T := TX5) (N := 41) hx hb htB ziX5 tyX5 tyX5_ok nmX5 hown hK hP hD hS 0 rfl rfl 25 (by decide) (htB _ zm_312) (fun _ h9 => h9) rfl (tyX5_ok 25 (by decide)) rfl rfl (Nat.le_of_ble_eq_true rfl) dX5_passes_49 (fun H locs hP hD hS => ?_)
        obtain ⟨S_49, eS_49⟩ : ∃ z : zT, z = (va_up S 25 (fun _ => ((S 25 0) + (1 : Int32)))) := ⟨_, rfl⟩
        replace h := h S_49 eS_49
        replace hP : va_P D zCl (bX5 ah cy S_49) H := by rw [eS_49]; exact hP
        replace hD : va_D A (bX5 ah cy S_49) := by rw [eS_49]; exact hD
        obtain ⟨y52, ey52⟩ : ∃ z : Int32, z = (x2 + (1 : Int32)) := ⟨_, rfl⟩
        replace h := h y52 ey52
        refine lv_iinc (v := y52) (lv' := [(2, .int y52), (0, .ref (ah 99)), (1, .ref (ah 2))]) hx hb dX5_passes_52 hl (k := 2) rfl (by rw [ey52]; rfl) (by decide) rfl (fun ls hl => ?_)
        refine lv_goto (tgt := 2) hx hb dX5_passes_55 (by decide) ?_
        exact ih2 y52 S_49 h H locs hP hD hS ls (lv_sub hl [1, 2, 0] rfl)
      intro x2 S h H locs hP hD hS ls hl
      refine lv_iload_n hx hb dX5_passes_2 rfl (lv_at hl 2 rfl) ?_
      refine lv_aload_n hx hb dX5_passes_3 rfl (lv_at hl 1 rfl) ?_
      refine va_alen (D := D) (v := (8 : Int32)) hx hb hK hP 3 0 rfl rfl rfl dX5_passes_4 ?_
      refine lv_icmp_ge (tgt := 58) hx hb dX5_passes_5 (by decide) (fun c5 => ?_) (fun c5 => ?_)
      · replace h := And.left h c5
        exact W.vret hx hb hr (fun t ht hW => ⟨⟨S, rfl, h, zP_h ht hP⟩, hS.F ht⟩) hS.2.2 dX5_passes_58
      · replace h := And.right h c5
        refine lv_aload_n hx hb dX5_passes_8 rfl (lv_at hl 0 rfl) ?_
        refine va_get (D := D) (ci := 5) (v := .int (S 24 0)) (C := RX5) (T := TX5) (N := 41) hx hb htB ziX5 hown hK hP 0 rfl rfl 24 (by decide) (htB _ zm_313) (fun _ h9 => h9) rfl dX5_passes_9 ?_
        refine lv_if_eq (tgt := 30) hx hb dX5_passes_12 (by decide) (fun c12 => ?_) (fun c12 => ?_)
        · replace h := And.left h c12
          refine lv_aload_n hx hb dX5_passes_30 rfl (lv_at hl 1 rfl) ?_
          refine lv_iload_n hx hb dX5_passes_31 rfl (lv_at hl 2 rfl) ?_
          refine lv_aload_n hx hb dX5_passes_32 rfl (lv_at hl 0 rfl) ?_
          refine va_get (D := D) (ci := 5) (v := .ref (ah 22)) (C := RX5) (T := TX5) (N := 41) hx hb htB ziX5 hown hK hP 0 rfl rfl 22 (by decide) (htB _ zm_314) (fun _ h9 => h9) rfl dX5_passes_33 ?_
          refine lv_aload_n hx hb dX5_passes_36 rfl (lv_at hl 0 rfl) ?_
          refine va_get (D := D) (ci := 5) (v := .int (S 25 0)) (C := RX5) (T := TX5) (N := 41) hx hb htB ziX5 hown hK hP 0 rfl rfl 25 (by decide) (htB _ zm_312) (fun _ h9 => h9) rfl dX5_passes_37 ?_
          refine va_iald (D := D) hx hb hK hP 18 0 rfl rfl (And.left h) dX5_passes_40 ?_
          replace h := And.right h
          refine va_iast (D := D) hx hb hK hP hD hS 3 0 rfl rfl (And.left h) dX5_passes_41 (fun H locs hP hD hS => ?_)
          replace h := And.right h
          obtain ⟨S_41, eS_41⟩ : ∃ z : zT, z = (va_up S 2 (upd (S 2) x2.toNatClampNeg (S 22 (S 25 0).toNatClampNeg))) := ⟨_, rfl⟩
          replace h := h S_41 eS_41
          replace hP : va_P D zCl (bX5 ah cy S_41) H := by rw [eS_41]; exact hP
          replace hD : va_D A (bX5 ah cy S_41) := by rw [eS_41]; exact hD
          exact L42 x2 S_41 h H locs hP hD hS ls (lv_sub hl [0, 1, 2] rfl)
        · replace h := And.right h c12
          refine lv_aload_n hx hb dX5_passes_15 rfl (lv_at hl 0 rfl) ?_
          refine va_get (D := D) (ci := 5) (v := .ref (ah 22)) (C := RX5) (T := TX5) (N := 41) hx hb htB ziX5 hown hK hP 0 rfl rfl 22 (by decide) (htB _ zm_314) (fun _ h9 => h9) rfl dX5_passes_16 ?_
          refine lv_aload_n hx hb dX5_passes_19 rfl (lv_at hl 0 rfl) ?_
          refine va_get (D := D) (ci := 5) (v := .int (S 25 0)) (C := RX5) (T := TX5) (N := 41) hx hb htB ziX5 hown hK hP 0 rfl rfl 25 (by decide) (htB _ zm_312) (fun _ h9 => h9) rfl dX5_passes_20 ?_
          refine lv_aload_n hx hb dX5_passes_23 rfl (lv_at hl 1 rfl) ?_
          refine lv_iload_n hx hb dX5_passes_24 rfl (lv_at hl 2 rfl) ?_
          refine va_iald (D := D) hx hb hK hP 3 0 rfl rfl (And.left h) dX5_passes_25 ?_
          replace h := And.right h
          refine va_iast (D := D) hx hb hK hP hD hS 18 0 rfl rfl (And.left h) dX5_passes_26 (fun H locs hP hD hS => ?_)
          replace h := And.right h
          obtain ⟨S_26, eS_26⟩ : ∃ z : zT, z = (va_up S 22 (upd (S 22) (S 25 0).toNatClampNeg (S 2 x2.toNatClampNeg))) := ⟨_, rfl⟩
          replace h := h S_26 eS_26
          replace hP : va_P D zCl (bX5 ah cy S_26) H := by rw [eS_26]; exact hP
          replace hD : va_D A (bX5 ah cy S_26) := by rw [eS_26]; exact hD
          refine lv_goto (tgt := 42) hx hb dX5_passes_27 (by decide) ?_
          exact L42 x2 S_26 h H locs hP hD hS ls (lv_sub hl [0, 1, 2] rfl)
  refine lv_iconst (v := (0 : Int32)) hx hb dX5_passes_0 (by decide) ?_
  refine lv_istore_n (lv' := [(2, .int (0 : Int32)), (0, .ref (ah 99)), (1, .ref (ah 2))]) hx hb dX5_passes_1 rfl hl (by decide) rfl (fun ls hl => ?_)
  obtain ⟨nn, h⟩ := h
  exact L2 nn (0 : Int32) S h H locs hP hD hS ls (lv_sub hl [1, 2, 0] rfl)
set_option maxHeartbeats 4000000 in
set_option maxRecDepth 100000 in
theorem c_X5_passes_k3 (l : Launch) (D : va_G) (cy : ClassId) (ah : Nat → Nat) (sz : Nat) (S : zT) {Q : zT → Prop} (h : wp_X5_passes_k3 S Q) : Met l yX5_passes w_X5_passes rm_X5_passes_k3 (va_Pc [.ref (ah 99), .ref (ah 3)] (zM D cy (bX5 ah cy S) sz)) (va_Qv (S := zT) (fun (u : zT) => Q u) (fun u t => va_P D zCl ((fun (u : zT) => (bX5 ah cy u)) u) t.heap) (va_A (bX5 ah cy S) sz)) 0 0 (va_A (bX5 ah cy S) sz) := by
  refine zOf_v (by decide) (Nat.le_of_ble_eq_true rfl) ?_
  intro p e s m below meth c ls A H locs hx hb hr hml hown htB hlocks hK hN hP hD hS hA hl
  replace hl : lv_has ls 3 [(0, .ref (ah 99)), (1, .ref (ah 3))] := hl
  have L2 : ∀ (k2 : Nat) (x2 : Int32) (S : zT), wpl_X5_passes_k3_2 Q k2 x2 S → ∀ (H : Heap) (locs : List Loc), va_P D zCl (bX5 ah cy S) H → va_D A (bX5 ah cy S) → va_S A s.heap H locs → ∀ ls : Array Slot, lv_has ls 3 [(0, .ref (ah 99)), (1, .ref (ah 3)), (2, .int x2)] → W p l e rm_X5_passes_k3 s m ([.ref (ah 99), .ref (ah 3)] : List Value).toArray below meth c H locs 0 0 (MQ below (va_Qv (S := zT) (fun (u : zT) => Q u) (fun u t => va_P D zCl ((fun (u : zT) => (bX5 ah cy u)) u) t.heap) A) ([.ref (ah 99), .ref (ah 3)] : List Value).toArray s 0 0 A) (F0 m 2 ls []) := by
    intro k2
    induction k2 with
    | zero => exact fun x2 S h => False.elim h
    | succ k2 ih2 =>
      have L42 : ∀ (x2 : Int32) (S : zT), wpb_X5_passes_k3_42 Q (wpl_X5_passes_k3_2 Q k2) x2 S → ∀ (H : Heap) (locs : List Loc), va_P D zCl (bX5 ah cy S) H → va_D A (bX5 ah cy S) → va_S A s.heap H locs → ∀ ls : Array Slot, lv_has ls 3 [(0, .ref (ah 99)), (1, .ref (ah 3)), (2, .int x2)] → W p l e rm_X5_passes_k3 s m ([.ref (ah 99), .ref (ah 3)] : List Value).toArray below meth c H locs 0 0 (MQ below (va_Qv (S := zT) (fun (u : zT) => Q u) (fun u t => va_P D zCl ((fun (u : zT) => (bX5 ah cy u)) u) t.heap) A) ([.ref (ah 99), .ref (ah 3)] : List Value).toArray s 0 0 A) (F0 m 42 ls []) := by
        intro x2 S h H locs hP hD hS ls hl
        refine lv_aload_n hx hb dX5_passes_42 rfl (lv_at hl 0 rfl) ?_
        refine lv_dup hx hb dX5_passes_43 rfl ?_
        refine va_get (D := D) (ci := 5) (v := .int (S 25 0)) (C := RX5) (T := TX5) (N := 41) hx hb htB ziX5 hown hK hP 0 rfl rfl 25 (by decide) (htB _ zm_312) (fun _ h9 => h9) rfl dX5_passes_44 ?_
        refine lv_iconst (v := (1 : Int32)) hx hb dX5_passes_47 (by decide) ?_
        refine lv_iadd hx hb dX5_passes_48 ?_
        refine va_put (D := D) (ci := 5) (v := .int ((S 25 0) + (1 : Int32))) (ty := .int) (C := RX5) (T := TX5) (N := 41) hx hb htB ziX5 tyX5 tyX5_ok nmX5 hown hK hP hD hS 0 rfl rfl 25 (by decide) (htB _ zm_312) (fun _ h9 => h9) rfl (tyX5_ok 25 (by decide)) rfl rfl (Nat.le_of_ble_eq_true rfl) dX5_passes_49 (fun H locs hP hD hS => ?_)
        obtain ⟨S_49, eS_49⟩ : ∃ z : zT, z = (va_up S 25 (fun _ => ((S 25 0) + (1 : Int32)))) := ⟨_, rfl⟩
        replace h := h S_49 eS_49
        replace hP : va_P D zCl (bX5 ah cy S_49) H := by rw [eS_49]; exact hP
        replace hD : va_D A (bX5 ah cy S_49) := by rw [eS_49]; exact hD
        obtain ⟨y52, ey52⟩ : ∃ z : Int32, z = (x2 + (1 : Int32)) := ⟨_, rfl⟩
        replace h := h y52 ey52
        refine lv_iinc (v := y52) (lv' := [(2, .int y52), (0, .ref (ah 99)), (1, .ref (ah 3))]) hx hb dX5_passes_52 hl (k := 2) rfl (by rw [ey52]; rfl) (by decide) rfl (fun ls hl => ?_)
        refine lv_goto (tgt := 2) hx hb dX5_passes_55 (by decide) ?_
        exact ih2 y52 S_49 h H locs hP hD hS ls (lv_sub hl [1, 2, 0] rfl)
      intro x2 S h H locs hP hD hS ls hl
      refine lv_iload_n hx hb dX5_passes_2 rfl (lv_at hl 2 rfl) ?_
      refine lv_aload_n hx hb dX5_passes_3 rfl (lv_at hl 1 rfl) ?_
      refine va_alen (D := D) (v := (8 : Int32)) hx hb hK hP 4 0 rfl rfl rfl dX5_passes_4 ?_
      refine lv_icmp_ge (tgt := 58) hx hb dX5_passes_5 (by decide) (fun c5 => ?_) (fun c5 => ?_)
      · replace h := And.left h c5
        exact W.vret hx hb hr (fun t ht hW => ⟨⟨S, rfl, h, zP_h ht hP⟩, hS.F ht⟩) hS.2.2 dX5_passes_58
      · replace h := And.right h c5
        refine lv_aload_n hx hb dX5_passes_8 rfl (lv_at hl 0 rfl) ?_
        refine va_get (D := D) (ci := 5) (v := .int (S 24 0)) (C := RX5) (T := TX5) (N := 41) hx hb htB ziX5 hown hK hP 0 rfl rfl 24 (by decide) (htB _ zm_313) (fun _ h9 => h9) rfl dX5_passes_9 ?_
        refine lv_if_eq (tgt := 30) hx hb dX5_passes_12 (by decide) (fun c12 => ?_) (fun c12 => ?_)
        · replace h := And.left h c12
          refine lv_aload_n hx hb dX5_passes_30 rfl (lv_at hl 1 rfl) ?_
          refine lv_iload_n hx hb dX5_passes_31 rfl (lv_at hl 2 rfl) ?_
          refine lv_aload_n hx hb dX5_passes_32 rfl (lv_at hl 0 rfl) ?_
          refine va_get (D := D) (ci := 5) (v := .ref (ah 22)) (C := RX5) (T := TX5) (N := 41) hx hb htB ziX5 hown hK hP 0 rfl rfl 22 (by decide) (htB _ zm_314) (fun _ h9 => h9) rfl dX5_passes_33 ?_
          refine lv_aload_n hx hb dX5_passes_36 rfl (lv_at hl 0 rfl) ?_
          refine va_get (D := D) (ci := 5) (v := .int (S 25 0)) (C := RX5) (T := TX5) (N := 41) hx hb htB ziX5 hown hK hP 0 rfl rfl 25 (by decide) (htB _ zm_312) (fun _ h9 => h9) rfl dX5_passes_37 ?_
          refine va_iald (D := D) hx hb hK hP 18 0 rfl rfl (And.left h) dX5_passes_40 ?_
          replace h := And.right h
          refine va_iast (D := D) hx hb hK hP hD hS 4 0 rfl rfl (And.left h) dX5_passes_41 (fun H locs hP hD hS => ?_)
          replace h := And.right h
          obtain ⟨S_41, eS_41⟩ : ∃ z : zT, z = (va_up S 3 (upd (S 3) x2.toNatClampNeg (S 22 (S 25 0).toNatClampNeg))) := ⟨_, rfl⟩
          replace h := h S_41 eS_41
          replace hP : va_P D zCl (bX5 ah cy S_41) H := by rw [eS_41]; exact hP
          replace hD : va_D A (bX5 ah cy S_41) := by rw [eS_41]; exact hD
          exact L42 x2 S_41 h H locs hP hD hS ls (lv_sub hl [0, 1, 2] rfl)
        · replace h := And.right h c12
          refine lv_aload_n hx hb dX5_passes_15 rfl (lv_at hl 0 rfl) ?_
          refine va_get (D := D) (ci := 5) (v := .ref (ah 22)) (C := RX5) (T := TX5) (N := 41) hx hb htB ziX5 hown hK hP 0 rfl rfl 22 (by decide) (htB _ zm_314) (fun _ h9 => h9) rfl dX5_passes_16 ?_
          refine lv_aload_n hx hb dX5_passes_19 rfl (lv_at hl 0 rfl) ?_
          refine va_get (D := D) (ci := 5) (v := .int (S 25 0)) (C := RX5) (T := TX5) (N := 41) hx hb htB ziX5 hown hK hP 0 rfl rfl 25 (by decide) (htB _ zm_312) (fun _ h9 => h9) rfl dX5_passes_20 ?_
          refine lv_aload_n hx hb dX5_passes_23 rfl (lv_at hl 1 rfl) ?_
          refine lv_iload_n hx hb dX5_passes_24 rfl (lv_at hl 2 rfl) ?_
          refine va_iald (D := D) hx hb hK hP 4 0 rfl rfl (And.left h) dX5_passes_25 ?_
          replace h := And.right h
          refine va_iast (D := D) hx hb hK hP hD hS 18 0 rfl rfl (And.left h) dX5_passes_26 (fun H locs hP hD hS => ?_)
          replace h := And.right h
          obtain ⟨S_26, eS_26⟩ : ∃ z : zT, z = (va_up S 22 (upd (S 22) (S 25 0).toNatClampNeg (S 3 x2.toNatClampNeg))) := ⟨_, rfl⟩
          replace h := h S_26 eS_26
          replace hP : va_P D zCl (bX5 ah cy S_26) H := by rw [eS_26]; exact hP
          replace hD : va_D A (bX5 ah cy S_26) := by rw [eS_26]; exact hD
          refine lv_goto (tgt := 42) hx hb dX5_passes_27 (by decide) ?_
          exact L42 x2 S_26 h H locs hP hD hS ls (lv_sub hl [0, 1, 2] rfl)
  refine lv_iconst (v := (0 : Int32)) hx hb dX5_passes_0 (by decide) ?_
  refine lv_istore_n (lv' := [(2, .int (0 : Int32)), (0, .ref (ah 99)), (1, .ref (ah 3))]) hx hb dX5_passes_1 rfl hl (by decide) rfl (fun ls hl => ?_)
  obtain ⟨nn, h⟩ := h
  exact L2 nn (0 : Int32) S h H locs hP hD hS ls (lv_sub hl [1, 2, 0] rfl)
set_option maxHeartbeats 4000000 in
set_option maxRecDepth 100000 in
theorem c_X5_passes_k4 (l : Launch) (D : va_G) (cy : ClassId) (ah : Nat → Nat) (sz : Nat) (S : zT) {Q : zT → Prop} (h : wp_X5_passes_k4 S Q) : Met l yX5_passes w_X5_passes rm_X5_passes_k4 (va_Pc [.ref (ah 99), .ref (ah 4)] (zM D cy (bX5 ah cy S) sz)) (va_Qv (S := zT) (fun (u : zT) => Q u) (fun u t => va_P D zCl ((fun (u : zT) => (bX5 ah cy u)) u) t.heap) (va_A (bX5 ah cy S) sz)) 0 0 (va_A (bX5 ah cy S) sz) := by
  refine zOf_v (by decide) (Nat.le_of_ble_eq_true rfl) ?_
  intro p e s m below meth c ls A H locs hx hb hr hml hown htB hlocks hK hN hP hD hS hA hl
  replace hl : lv_has ls 3 [(0, .ref (ah 99)), (1, .ref (ah 4))] := hl
  have L2 : ∀ (k2 : Nat) (x2 : Int32) (S : zT), wpl_X5_passes_k4_2 Q k2 x2 S → ∀ (H : Heap) (locs : List Loc), va_P D zCl (bX5 ah cy S) H → va_D A (bX5 ah cy S) → va_S A s.heap H locs → ∀ ls : Array Slot, lv_has ls 3 [(0, .ref (ah 99)), (1, .ref (ah 4)), (2, .int x2)] → W p l e rm_X5_passes_k4 s m ([.ref (ah 99), .ref (ah 4)] : List Value).toArray below meth c H locs 0 0 (MQ below (va_Qv (S := zT) (fun (u : zT) => Q u) (fun u t => va_P D zCl ((fun (u : zT) => (bX5 ah cy u)) u) t.heap) A) ([.ref (ah 99), .ref (ah 4)] : List Value).toArray s 0 0 A) (F0 m 2 ls []) := by
    intro k2
    induction k2 with
    | zero => exact fun x2 S h => False.elim h
    | succ k2 ih2 =>
      have L42 : ∀ (x2 : Int32) (S : zT), wpb_X5_passes_k4_42 Q (wpl_X5_passes_k4_2 Q k2) x2 S → ∀ (H : Heap) (locs : List Loc), va_P D zCl (bX5 ah cy S) H → va_D A (bX5 ah cy S) → va_S A s.heap H locs → ∀ ls : Array Slot, lv_has ls 3 [(0, .ref (ah 99)), (1, .ref (ah 4)), (2, .int x2)] → W p l e rm_X5_passes_k4 s m ([.ref (ah 99), .ref (ah 4)] : List Value).toArray below meth c H locs 0 0 (MQ below (va_Qv (S := zT) (fun (u : zT) => Q u) (fun u t => va_P D zCl ((fun (u : zT) => (bX5 ah cy u)) u) t.heap) A) ([.ref (ah 99), .ref (ah 4)] : List Value).toArray s 0 0 A) (F0 m 42 ls []) := by
        intro x2 S h H locs hP hD hS ls hl
        refine lv_aload_n hx hb dX5_passes_42 rfl (lv_at hl 0 rfl) ?_
        refine lv_dup hx hb dX5_passes_43 rfl ?_
        refine va_get (D := D) (ci := 5) (v := .int (S 25 0)) (C := RX5) (T := TX5) (N := 41) hx hb htB ziX5 hown hK hP 0 rfl rfl 25 (by decide) (htB _ zm_312) (fun _ h9 => h9) rfl dX5_passes_44 ?_
        refine lv_iconst (v := (1 : Int32)) hx hb dX5_passes_47 (by decide) ?_
        refine lv_iadd hx hb dX5_passes_48 ?_
        refine va_put (D := D) (ci := 5) (v := .int ((S 25 0) + (1 : Int32))) (ty := .int) (C := RX5) (T := TX5) (N := 41) hx hb htB ziX5 tyX5 tyX5_ok nmX5 hown hK hP hD hS 0 rfl rfl 25 (by decide) (htB _ zm_312) (fun _ h9 => h9) rfl (tyX5_ok 25 (by decide)) rfl rfl (Nat.le_of_ble_eq_true rfl) dX5_passes_49 (fun H locs hP hD hS => ?_)
        obtain ⟨S_49, eS_49⟩ : ∃ z : zT, z = (va_up S 25 (fun _ => ((S 25 0) + (1 : Int32)))) := ⟨_, rfl⟩
        replace h := h S_49 eS_49
        replace hP : va_P D zCl (bX5 ah cy S_49) H := by rw [eS_49]; exact hP
        replace hD : va_D A (bX5 ah cy S_49) := by rw [eS_49]; exact hD
        obtain ⟨y52, ey52⟩ : ∃ z : Int32, z = (x2 + (1 : Int32)) := ⟨_, rfl⟩
        replace h := h y52 ey52
        refine lv_iinc (v := y52) (lv' := [(2, .int y52), (0, .ref (ah 99)), (1, .ref (ah 4))]) hx hb dX5_passes_52 hl (k := 2) rfl (by rw [ey52]; rfl) (by decide) rfl (fun ls hl => ?_)
        refine lv_goto (tgt := 2) hx hb dX5_passes_55 (by decide) ?_
        exact ih2 y52 S_49 h H locs hP hD hS ls (lv_sub hl [1, 2, 0] rfl)
      intro x2 S h H locs hP hD hS ls hl
      refine lv_iload_n hx hb dX5_passes_2 rfl (lv_at hl 2 rfl) ?_
      refine lv_aload_n hx hb dX5_passes_3 rfl (lv_at hl 1 rfl) ?_
      refine va_alen (D := D) (v := (8 : Int32)) hx hb hK hP 5 0 rfl rfl rfl dX5_passes_4 ?_
      refine lv_icmp_ge (tgt := 58) hx hb dX5_passes_5 (by decide) (fun c5 => ?_) (fun c5 => ?_)
      · replace h := And.left h c5
        exact W.vret hx hb hr (fun t ht hW => ⟨⟨S, rfl, h, zP_h ht hP⟩, hS.F ht⟩) hS.2.2 dX5_passes_58
      · replace h := And.right h c5
        refine lv_aload_n hx hb dX5_passes_8 rfl (lv_at hl 0 rfl) ?_
        refine va_get (D := D) (ci := 5) (v := .int (S 24 0)) (C := RX5) (T := TX5) (N := 41) hx hb htB ziX5 hown hK hP 0 rfl rfl 24 (by decide) (htB _ zm_313) (fun _ h9 => h9) rfl dX5_passes_9 ?_
        refine lv_if_eq (tgt := 30) hx hb dX5_passes_12 (by decide) (fun c12 => ?_) (fun c12 => ?_)
        · replace h := And.left h c12
          refine lv_aload_n hx hb dX5_passes_30 rfl (lv_at hl 1 rfl) ?_
          refine lv_iload_n hx hb dX5_passes_31 rfl (lv_at hl 2 rfl) ?_
          refine lv_aload_n hx hb dX5_passes_32 rfl (lv_at hl 0 rfl) ?_
          refine va_get (D := D) (ci := 5) (v := .ref (ah 22)) (C := RX5) (T := TX5) (N := 41) hx hb htB ziX5 hown hK hP 0 rfl rfl 22 (by decide) (htB _ zm_314) (fun _ h9 => h9) rfl dX5_passes_33 ?_
          refine lv_aload_n hx hb dX5_passes_36 rfl (lv_at hl 0 rfl) ?_
          refine va_get (D := D) (ci := 5) (v := .int (S 25 0)) (C := RX5) (T := TX5) (N := 41) hx hb htB ziX5 hown hK hP 0 rfl rfl 25 (by decide) (htB _ zm_312) (fun _ h9 => h9) rfl dX5_passes_37 ?_
          refine va_iald (D := D) hx hb hK hP 18 0 rfl rfl (And.left h) dX5_passes_40 ?_
          replace h := And.right h
          refine va_iast (D := D) hx hb hK hP hD hS 5 0 rfl rfl (And.left h) dX5_passes_41 (fun H locs hP hD hS => ?_)
          replace h := And.right h
          obtain ⟨S_41, eS_41⟩ : ∃ z : zT, z = (va_up S 4 (upd (S 4) x2.toNatClampNeg (S 22 (S 25 0).toNatClampNeg))) := ⟨_, rfl⟩
          replace h := h S_41 eS_41
          replace hP : va_P D zCl (bX5 ah cy S_41) H := by rw [eS_41]; exact hP
          replace hD : va_D A (bX5 ah cy S_41) := by rw [eS_41]; exact hD
          exact L42 x2 S_41 h H locs hP hD hS ls (lv_sub hl [0, 1, 2] rfl)
        · replace h := And.right h c12
          refine lv_aload_n hx hb dX5_passes_15 rfl (lv_at hl 0 rfl) ?_
          refine va_get (D := D) (ci := 5) (v := .ref (ah 22)) (C := RX5) (T := TX5) (N := 41) hx hb htB ziX5 hown hK hP 0 rfl rfl 22 (by decide) (htB _ zm_314) (fun _ h9 => h9) rfl dX5_passes_16 ?_
          refine lv_aload_n hx hb dX5_passes_19 rfl (lv_at hl 0 rfl) ?_
          refine va_get (D := D) (ci := 5) (v := .int (S 25 0)) (C := RX5) (T := TX5) (N := 41) hx hb htB ziX5 hown hK hP 0 rfl rfl 25 (by decide) (htB _ zm_312) (fun _ h9 => h9) rfl dX5_passes_20 ?_
          refine lv_aload_n hx hb dX5_passes_23 rfl (lv_at hl 1 rfl) ?_
          refine lv_iload_n hx hb dX5_passes_24 rfl (lv_at hl 2 rfl) ?_
          refine va_iald (D := D) hx hb hK hP 5 0 rfl rfl (And.left h) dX5_passes_25 ?_
          replace h := And.right h
          refine va_iast (D := D) hx hb hK hP hD hS 18 0 rfl rfl (And.left h) dX5_passes_26 (fun H locs hP hD hS => ?_)
          replace h := And.right h
          obtain ⟨S_26, eS_26⟩ : ∃ z : zT, z = (va_up S 22 (upd (S 22) (S 25 0).toNatClampNeg (S 4 x2.toNatClampNeg))) := ⟨_, rfl⟩
          replace h := h S_26 eS_26
          replace hP : va_P D zCl (bX5 ah cy S_26) H := by rw [eS_26]; exact hP
          replace hD : va_D A (bX5 ah cy S_26) := by rw [eS_26]; exact hD
          refine lv_goto (tgt := 42) hx hb dX5_passes_27 (by decide) ?_
          exact L42 x2 S_26 h H locs hP hD hS ls (lv_sub hl [0, 1, 2] rfl)
  refine lv_iconst (v := (0 : Int32)) hx hb dX5_passes_0 (by decide) ?_
  refine lv_istore_n (lv' := [(2, .int (0 : Int32)), (0, .ref (ah 99)), (1, .ref (ah 4))]) hx hb dX5_passes_1 rfl hl (by decide) rfl (fun ls hl => ?_)
  obtain ⟨nn, h⟩ := h
  exact L2 nn (0 : Int32) S h H locs hP hD hS ls (lv_sub hl [1, 2, 0] rfl)
set_option maxHeartbeats 4000000 in
set_option maxRecDepth 100000 in
theorem c_X5_passes_k5 (l : Launch) (D : va_G) (cy : ClassId) (ah : Nat → Nat) (sz : Nat) (S : zT) {Q : zT → Prop} (h : wp_X5_passes_k5 S Q) : Met l yX5_passes w_X5_passes rm_X5_passes_k5 (va_Pc [.ref (ah 99), .ref (ah 5)] (zM D cy (bX5 ah cy S) sz)) (va_Qv (S := zT) (fun (u : zT) => Q u) (fun u t => va_P D zCl ((fun (u : zT) => (bX5 ah cy u)) u) t.heap) (va_A (bX5 ah cy S) sz)) 0 0 (va_A (bX5 ah cy S) sz) := by
  refine zOf_v (by decide) (Nat.le_of_ble_eq_true rfl) ?_
  intro p e s m below meth c ls A H locs hx hb hr hml hown htB hlocks hK hN hP hD hS hA hl
  replace hl : lv_has ls 3 [(0, .ref (ah 99)), (1, .ref (ah 5))] := hl
  have L2 : ∀ (k2 : Nat) (x2 : Int32) (S : zT), wpl_X5_passes_k5_2 Q k2 x2 S → ∀ (H : Heap) (locs : List Loc), va_P D zCl (bX5 ah cy S) H → va_D A (bX5 ah cy S) → va_S A s.heap H locs → ∀ ls : Array Slot, lv_has ls 3 [(0, .ref (ah 99)), (1, .ref (ah 5)), (2, .int x2)] → W p l e rm_X5_passes_k5 s m ([.ref (ah 99), .ref (ah 5)] : List Value).toArray below meth c H locs 0 0 (MQ below (va_Qv (S := zT) (fun (u : zT) => Q u) (fun u t => va_P D zCl ((fun (u : zT) => (bX5 ah cy u)) u) t.heap) A) ([.ref (ah 99), .ref (ah 5)] : List Value).toArray s 0 0 A) (F0 m 2 ls []) := by
    intro k2
    induction k2 with
    | zero => exact fun x2 S h => False.elim h
    | succ k2 ih2 =>
      have L42 : ∀ (x2 : Int32) (S : zT), wpb_X5_passes_k5_42 Q (wpl_X5_passes_k5_2 Q k2) x2 S → ∀ (H : Heap) (locs : List Loc), va_P D zCl (bX5 ah cy S) H → va_D A (bX5 ah cy S) → va_S A s.heap H locs → ∀ ls : Array Slot, lv_has ls 3 [(0, .ref (ah 99)), (1, .ref (ah 5)), (2, .int x2)] → W p l e rm_X5_passes_k5 s m ([.ref (ah 99), .ref (ah 5)] : List Value).toArray below meth c H locs 0 0 (MQ below (va_Qv (S := zT) (fun (u : zT) => Q u) (fun u t => va_P D zCl ((fun (u : zT) => (bX5 ah cy u)) u) t.heap) A) ([.ref (ah 99), .ref (ah 5)] : List Value).toArray s 0 0 A) (F0 m 42 ls []) := by
        intro x2 S h H locs hP hD hS ls hl
        refine lv_aload_n hx hb dX5_passes_42 rfl (lv_at hl 0 rfl) ?_
        refine lv_dup hx hb dX5_passes_43 rfl ?_
        refine va_get (D := D) (ci := 5) (v := .int (S 25 0)) (C := RX5) (T := TX5) (N := 41) hx hb htB ziX5 hown hK hP 0 rfl rfl 25 (by decide) (htB _ zm_312) (fun _ h9 => h9) rfl dX5_passes_44 ?_
        refine lv_iconst (v := (1 : Int32)) hx hb dX5_passes_47 (by decide) ?_
        refine lv_iadd hx hb dX5_passes_48 ?_
        refine va_put (D := D) (ci := 5) (v := .int ((S 25 0) + (1 : Int32))) (ty := .int) (C := RX5) (T := TX5) (N := 41) hx hb htB ziX5 tyX5 tyX5_ok nmX5 hown hK hP hD hS 0 rfl rfl 25 (by decide) (htB _ zm_312) (fun _ h9 => h9) rfl (tyX5_ok 25 (by decide)) rfl rfl (Nat.le_of_ble_eq_true rfl) dX5_passes_49 (fun H locs hP hD hS => ?_)
        obtain ⟨S_49, eS_49⟩ : ∃ z : zT, z = (va_up S 25 (fun _ => ((S 25 0) + (1 : Int32)))) := ⟨_, rfl⟩
        replace h := h S_49 eS_49
        replace hP : va_P D zCl (bX5 ah cy S_49) H := by rw [eS_49]; exact hP
        replace hD : va_D A (bX5 ah cy S_49) := by rw [eS_49]; exact hD
        obtain ⟨y52, ey52⟩ : ∃ z : Int32, z = (x2 + (1 : Int32)) := ⟨_, rfl⟩
        replace h := h y52 ey52
        refine lv_iinc (v := y52) (lv' := [(2, .int y52), (0, .ref (ah 99)), (1, .ref (ah 5))]) hx hb dX5_passes_52 hl (k := 2) rfl (by rw [ey52]; rfl) (by decide) rfl (fun ls hl => ?_)
        refine lv_goto (tgt := 2) hx hb dX5_passes_55 (by decide) ?_
        exact ih2 y52 S_49 h H locs hP hD hS ls (lv_sub hl [1, 2, 0] rfl)
      intro x2 S h H locs hP hD hS ls hl
      refine lv_iload_n hx hb dX5_passes_2 rfl (lv_at hl 2 rfl) ?_
      refine lv_aload_n hx hb dX5_passes_3 rfl (lv_at hl 1 rfl) ?_
      refine va_alen (D := D) (v := (8 : Int32)) hx hb hK hP 6 0 rfl rfl rfl dX5_passes_4 ?_
      refine lv_icmp_ge (tgt := 58) hx hb dX5_passes_5 (by decide) (fun c5 => ?_) (fun c5 => ?_)
      · replace h := And.left h c5
        exact W.vret hx hb hr (fun t ht hW => ⟨⟨S, rfl, h, zP_h ht hP⟩, hS.F ht⟩) hS.2.2 dX5_passes_58
      · replace h := And.right h c5
        refine lv_aload_n hx hb dX5_passes_8 rfl (lv_at hl 0 rfl) ?_
        refine va_get (D := D) (ci := 5) (v := .int (S 24 0)) (C := RX5) (T := TX5) (N := 41) hx hb htB ziX5 hown hK hP 0 rfl rfl 24 (by decide) (htB _ zm_313) (fun _ h9 => h9) rfl dX5_passes_9 ?_
        refine lv_if_eq (tgt := 30) hx hb dX5_passes_12 (by decide) (fun c12 => ?_) (fun c12 => ?_)
        · replace h := And.left h c12
          refine lv_aload_n hx hb dX5_passes_30 rfl (lv_at hl 1 rfl) ?_
          refine lv_iload_n hx hb dX5_passes_31 rfl (lv_at hl 2 rfl) ?_
          refine lv_aload_n hx hb dX5_passes_32 rfl (lv_at hl 0 rfl) ?_
          refine va_get (D := D) (ci := 5) (v := .ref (ah 22)) (C := RX5) (T := TX5) (N := 41) hx hb htB ziX5 hown hK hP 0 rfl rfl 22 (by decide) (htB _ zm_314) (fun _ h9 => h9) rfl dX5_passes_33 ?_
          refine lv_aload_n hx hb dX5_passes_36 rfl (lv_at hl 0 rfl) ?_
          refine va_get (D := D) (ci := 5) (v := .int (S 25 0)) (C := RX5) (T := TX5) (N := 41) hx hb htB ziX5 hown hK hP 0 rfl rfl 25 (by decide) (htB _ zm_312) (fun _ h9 => h9) rfl dX5_passes_37 ?_
          refine va_iald (D := D) hx hb hK hP 18 0 rfl rfl (And.left h) dX5_passes_40 ?_
          replace h := And.right h
          refine va_iast (D := D) hx hb hK hP hD hS 6 0 rfl rfl (And.left h) dX5_passes_41 (fun H locs hP hD hS => ?_)
          replace h := And.right h
          obtain ⟨S_41, eS_41⟩ : ∃ z : zT, z = (va_up S 5 (upd (S 5) x2.toNatClampNeg (S 22 (S 25 0).toNatClampNeg))) := ⟨_, rfl⟩
          replace h := h S_41 eS_41
          replace hP : va_P D zCl (bX5 ah cy S_41) H := by rw [eS_41]; exact hP
          replace hD : va_D A (bX5 ah cy S_41) := by rw [eS_41]; exact hD
          exact L42 x2 S_41 h H locs hP hD hS ls (lv_sub hl [0, 1, 2] rfl)
        · replace h := And.right h c12
          refine lv_aload_n hx hb dX5_passes_15 rfl (lv_at hl 0 rfl) ?_
          refine va_get (D := D) (ci := 5) (v := .ref (ah 22)) (C := RX5) (T := TX5) (N := 41) hx hb htB ziX5 hown hK hP 0 rfl rfl 22 (by decide) (htB _ zm_314) (fun _ h9 => h9) rfl dX5_passes_16 ?_
          refine lv_aload_n hx hb dX5_passes_19 rfl (lv_at hl 0 rfl) ?_
          refine va_get (D := D) (ci := 5) (v := .int (S 25 0)) (C := RX5) (T := TX5) (N := 41) hx hb htB ziX5 hown hK hP 0 rfl rfl 25 (by decide) (htB _ zm_312) (fun _ h9 => h9) rfl dX5_passes_20 ?_
          refine lv_aload_n hx hb dX5_passes_23 rfl (lv_at hl 1 rfl) ?_
          refine lv_iload_n hx hb dX5_passes_24 rfl (lv_at hl 2 rfl) ?_
          refine va_iald (D := D) hx hb hK hP 6 0 rfl rfl (And.left h) dX5_passes_25 ?_
          replace h := And.right h
          refine va_iast (D := D) hx hb hK hP hD hS 18 0 rfl rfl (And.left h) dX5_passes_26 (fun H locs hP hD hS => ?_)
          replace h := And.right h
          obtain ⟨S_26, eS_26⟩ : ∃ z : zT, z = (va_up S 22 (upd (S 22) (S 25 0).toNatClampNeg (S 5 x2.toNatClampNeg))) := ⟨_, rfl⟩
          replace h := h S_26 eS_26
          replace hP : va_P D zCl (bX5 ah cy S_26) H := by rw [eS_26]; exact hP
          replace hD : va_D A (bX5 ah cy S_26) := by rw [eS_26]; exact hD
          refine lv_goto (tgt := 42) hx hb dX5_passes_27 (by decide) ?_
          exact L42 x2 S_26 h H locs hP hD hS ls (lv_sub hl [0, 1, 2] rfl)
  refine lv_iconst (v := (0 : Int32)) hx hb dX5_passes_0 (by decide) ?_
  refine lv_istore_n (lv' := [(2, .int (0 : Int32)), (0, .ref (ah 99)), (1, .ref (ah 5))]) hx hb dX5_passes_1 rfl hl (by decide) rfl (fun ls hl => ?_)
  obtain ⟨nn, h⟩ := h
  exact L2 nn (0 : Int32) S h H locs hP hD hS ls (lv_sub hl [1, 2, 0] rfl)
set_option maxHeartbeats 4000000 in
set_option maxRecDepth 100000 in
theorem c_X5_passes_k6 (l : Launch) (D : va_G) (cy : ClassId) (ah : Nat → Nat) (sz : Nat) (S : zT) {Q : zT → Prop} (h : wp_X5_passes_k6 S Q) : Met l yX5_passes w_X5_passes rm_X5_passes_k6 (va_Pc [.ref (ah 99), .ref (ah 6)] (zM D cy (bX5 ah cy S) sz)) (va_Qv (S := zT) (fun (u : zT) => Q u) (fun u t => va_P D zCl ((fun (u : zT) => (bX5 ah cy u)) u) t.heap) (va_A (bX5 ah cy S) sz)) 0 0 (va_A (bX5 ah cy S) sz) := by
  refine zOf_v (by decide) (Nat.le_of_ble_eq_true rfl) ?_
  intro p e s m below meth c ls A H locs hx hb hr hml hown htB hlocks hK hN hP hD hS hA hl
  replace hl : lv_has ls 3 [(0, .ref (ah 99)), (1, .ref (ah 6))] := hl
  have L2 : ∀ (k2 : Nat) (x2 : Int32) (S : zT), wpl_X5_passes_k6_2 Q k2 x2 S → ∀ (H : Heap) (locs : List Loc), va_P D zCl (bX5 ah cy S) H → va_D A (bX5 ah cy S) → va_S A s.heap H locs → ∀ ls : Array Slot, lv_has ls 3 [(0, .ref (ah 99)), (1, .ref (ah 6)), (2, .int x2)] → W p l e rm_X5_passes_k6 s m ([.ref (ah 99), .ref (ah 6)] : List Value).toArray below meth c H locs 0 0 (MQ below (va_Qv (S := zT) (fun (u : zT) => Q u) (fun u t => va_P D zCl ((fun (u : zT) => (bX5 ah cy u)) u) t.heap) A) ([.ref (ah 99), .ref (ah 6)] : List Value).toArray s 0 0 A) (F0 m 2 ls []) := by
    intro k2
    induction k2 with
    | zero => exact fun x2 S h => False.elim h
    | succ k2 ih2 =>
      have L42 : ∀ (x2 : Int32) (S : zT), wpb_X5_passes_k6_42 Q (wpl_X5_passes_k6_2 Q k2) x2 S → ∀ (H : Heap) (locs : List Loc), va_P D zCl (bX5 ah cy S) H → va_D A (bX5 ah cy S) → va_S A s.heap H locs → ∀ ls : Array Slot, lv_has ls 3 [(0, .ref (ah 99)), (1, .ref (ah 6)), (2, .int x2)] → W p l e rm_X5_passes_k6 s m ([.ref (ah 99), .ref (ah 6)] : List Value).toArray below meth c H locs 0 0 (MQ below (va_Qv (S := zT) (fun (u : zT) => Q u) (fun u t => va_P D zCl ((fun (u : zT) => (bX5 ah cy u)) u) t.heap) A) ([.ref (ah 99), .ref (ah 6)] : List Value).toArray s 0 0 A) (F0 m 42 ls []) := by
        intro x2 S h H locs hP hD hS ls hl
        refine lv_aload_n hx hb dX5_passes_42 rfl (lv_at hl 0 rfl) ?_
        refine lv_dup hx hb dX5_passes_43 rfl ?_
        refine va_get (D := D) (ci := 5) (v := .int (S 25 0)) (C := RX5) (T := TX5) (N := 41) hx hb htB ziX5 hown hK hP 0 rfl rfl 25 (by decide) (htB _ zm_312) (fun _ h9 => h9) rfl dX5_passes_44 ?_
        refine lv_iconst (v := (1 : Int32)) hx hb dX5_passes_47 (by decide) ?_
        refine lv_iadd hx hb dX5_passes_48 ?_
        refine va_put (D := D) (ci := 5) (v := .int ((S 25 0) + (1 : Int32))) (ty := .int) (C := RX5) (T := TX5) (N := 41) hx hb htB ziX5 tyX5 tyX5_ok nmX5 hown hK hP hD hS 0 rfl rfl 25 (by decide) (htB _ zm_312) (fun _ h9 => h9) rfl (tyX5_ok 25 (by decide)) rfl rfl (Nat.le_of_ble_eq_true rfl) dX5_passes_49 (fun H locs hP hD hS => ?_)
        obtain ⟨S_49, eS_49⟩ : ∃ z : zT, z = (va_up S 25 (fun _ => ((S 25 0) + (1 : Int32)))) := ⟨_, rfl⟩
        replace h := h S_49 eS_49
        replace hP : va_P D zCl (bX5 ah cy S_49) H := by rw [eS_49]; exact hP
        replace hD : va_D A (bX5 ah cy S_49) := by rw [eS_49]; exact hD
        obtain ⟨y52, ey52⟩ : ∃ z : Int32, z = (x2 + (1 : Int32)) := ⟨_, rfl⟩
        replace h := h y52 ey52
        refine lv_iinc (v := y52) (lv' := [(2, .int y52), (0, .ref (ah 99)), (1, .ref (ah 6))]) hx hb dX5_passes_52 hl (k := 2) rfl (by rw [ey52]; rfl) (by decide) rfl (fun ls hl => ?_)
        refine lv_goto (tgt := 2) hx hb dX5_passes_55 (by decide) ?_
        exact ih2 y52 S_49 h H locs hP hD hS ls (lv_sub hl [1, 2, 0] rfl)
      intro x2 S h H locs hP hD hS ls hl
      refine lv_iload_n hx hb dX5_passes_2 rfl (lv_at hl 2 rfl) ?_
      refine lv_aload_n hx hb dX5_passes_3 rfl (lv_at hl 1 rfl) ?_
      refine va_alen (D := D) (v := (8 : Int32)) hx hb hK hP 7 0 rfl rfl rfl dX5_passes_4 ?_
      refine lv_icmp_ge (tgt := 58) hx hb dX5_passes_5 (by decide) (fun c5 => ?_) (fun c5 => ?_)
      · replace h := And.left h c5
        exact W.vret hx hb hr (fun t ht hW => ⟨⟨S, rfl, h, zP_h ht hP⟩, hS.F ht⟩) hS.2.2 dX5_passes_58
      · replace h := And.right h c5
        refine lv_aload_n hx hb dX5_passes_8 rfl (lv_at hl 0 rfl) ?_
        refine va_get (D := D) (ci := 5) (v := .int (S 24 0)) (C := RX5) (T := TX5) (N := 41) hx hb htB ziX5 hown hK hP 0 rfl rfl 24 (by decide) (htB _ zm_313) (fun _ h9 => h9) rfl dX5_passes_9 ?_
        refine lv_if_eq (tgt := 30) hx hb dX5_passes_12 (by decide) (fun c12 => ?_) (fun c12 => ?_)
        · replace h := And.left h c12
          refine lv_aload_n hx hb dX5_passes_30 rfl (lv_at hl 1 rfl) ?_
          refine lv_iload_n hx hb dX5_passes_31 rfl (lv_at hl 2 rfl) ?_
          refine lv_aload_n hx hb dX5_passes_32 rfl (lv_at hl 0 rfl) ?_
          refine va_get (D := D) (ci := 5) (v := .ref (ah 22)) (C := RX5) (T := TX5) (N := 41) hx hb htB ziX5 hown hK hP 0 rfl rfl 22 (by decide) (htB _ zm_314) (fun _ h9 => h9) rfl dX5_passes_33 ?_
          refine lv_aload_n hx hb dX5_passes_36 rfl (lv_at hl 0 rfl) ?_
          refine va_get (D := D) (ci := 5) (v := .int (S 25 0)) (C := RX5) (T := TX5) (N := 41) hx hb htB ziX5 hown hK hP 0 rfl rfl 25 (by decide) (htB _ zm_312) (fun _ h9 => h9) rfl dX5_passes_37 ?_
          refine va_iald (D := D) hx hb hK hP 18 0 rfl rfl (And.left h) dX5_passes_40 ?_
          replace h := And.right h
          refine va_iast (D := D) hx hb hK hP hD hS 7 0 rfl rfl (And.left h) dX5_passes_41 (fun H locs hP hD hS => ?_)
          replace h := And.right h
          obtain ⟨S_41, eS_41⟩ : ∃ z : zT, z = (va_up S 6 (upd (S 6) x2.toNatClampNeg (S 22 (S 25 0).toNatClampNeg))) := ⟨_, rfl⟩
          replace h := h S_41 eS_41
          replace hP : va_P D zCl (bX5 ah cy S_41) H := by rw [eS_41]; exact hP
          replace hD : va_D A (bX5 ah cy S_41) := by rw [eS_41]; exact hD
          exact L42 x2 S_41 h H locs hP hD hS ls (lv_sub hl [0, 1, 2] rfl)
        · replace h := And.right h c12
          refine lv_aload_n hx hb dX5_passes_15 rfl (lv_at hl 0 rfl) ?_
          refine va_get (D := D) (ci := 5) (v := .ref (ah 22)) (C := RX5) (T := TX5) (N := 41) hx hb htB ziX5 hown hK hP 0 rfl rfl 22 (by decide) (htB _ zm_314) (fun _ h9 => h9) rfl dX5_passes_16 ?_
          refine lv_aload_n hx hb dX5_passes_19 rfl (lv_at hl 0 rfl) ?_
          refine va_get (D := D) (ci := 5) (v := .int (S 25 0)) (C := RX5) (T := TX5) (N := 41) hx hb htB ziX5 hown hK hP 0 rfl rfl 25 (by decide) (htB _ zm_312) (fun _ h9 => h9) rfl dX5_passes_20 ?_
          refine lv_aload_n hx hb dX5_passes_23 rfl (lv_at hl 1 rfl) ?_
          refine lv_iload_n hx hb dX5_passes_24 rfl (lv_at hl 2 rfl) ?_
          refine va_iald (D := D) hx hb hK hP 7 0 rfl rfl (And.left h) dX5_passes_25 ?_
          replace h := And.right h
          refine va_iast (D := D) hx hb hK hP hD hS 18 0 rfl rfl (And.left h) dX5_passes_26 (fun H locs hP hD hS => ?_)
          replace h := And.right h
          obtain ⟨S_26, eS_26⟩ : ∃ z : zT, z = (va_up S 22 (upd (S 22) (S 25 0).toNatClampNeg (S 6 x2.toNatClampNeg))) := ⟨_, rfl⟩
          replace h := h S_26 eS_26
          replace hP : va_P D zCl (bX5 ah cy S_26) H := by rw [eS_26]; exact hP
          replace hD : va_D A (bX5 ah cy S_26) := by rw [eS_26]; exact hD
          refine lv_goto (tgt := 42) hx hb dX5_passes_27 (by decide) ?_
          exact L42 x2 S_26 h H locs hP hD hS ls (lv_sub hl [0, 1, 2] rfl)
  refine lv_iconst (v := (0 : Int32)) hx hb dX5_passes_0 (by decide) ?_
  refine lv_istore_n (lv' := [(2, .int (0 : Int32)), (0, .ref (ah 99)), (1, .ref (ah 6))]) hx hb dX5_passes_1 rfl hl (by decide) rfl (fun ls hl => ?_)
  obtain ⟨nn, h⟩ := h
  exact L2 nn (0 : Int32) S h H locs hP hD hS ls (lv_sub hl [1, 2, 0] rfl)
set_option maxHeartbeats 4000000 in
set_option maxRecDepth 100000 in
theorem c_X5_passes_k7 (l : Launch) (D : va_G) (cy : ClassId) (ah : Nat → Nat) (sz : Nat) (S : zT) {Q : zT → Prop} (h : wp_X5_passes_k7 S Q) : Met l yX5_passes w_X5_passes rm_X5_passes_k7 (va_Pc [.ref (ah 99), .ref (ah 7)] (zM D cy (bX5 ah cy S) sz)) (va_Qv (S := zT) (fun (u : zT) => Q u) (fun u t => va_P D zCl ((fun (u : zT) => (bX5 ah cy u)) u) t.heap) (va_A (bX5 ah cy S) sz)) 0 0 (va_A (bX5 ah cy S) sz) := by
  refine zOf_v (by decide) (Nat.le_of_ble_eq_true rfl) ?_
  intro p e s m below meth c ls A H locs hx hb hr hml hown htB hlocks hK hN hP hD hS hA hl
  replace hl : lv_has ls 3 [(0, .ref (ah 99)), (1, .ref (ah 7))] := hl
  have L2 : ∀ (k2 : Nat) (x2 : Int32) (S : zT), wpl_X5_passes_k7_2 Q k2 x2 S → ∀ (H : Heap) (locs : List Loc), va_P D zCl (bX5 ah cy S) H → va_D A (bX5 ah cy S) → va_S A s.heap H locs → ∀ ls : Array Slot, lv_has ls 3 [(0, .ref (ah 99)), (1, .ref (ah 7)), (2, .int x2)] → W p l e rm_X5_passes_k7 s m ([.ref (ah 99), .ref (ah 7)] : List Value).toArray below meth c H locs 0 0 (MQ below (va_Qv (S := zT) (fun (u : zT) => Q u) (fun u t => va_P D zCl ((fun (u : zT) => (bX5 ah cy u)) u) t.heap) A) ([.ref (ah 99), .ref (ah 7)] : List Value).toArray s 0 0 A) (F0 m 2 ls []) := by
    intro k2
    induction k2 with
    | zero => exact fun x2 S h => False.elim h
    | succ k2 ih2 =>
      have L42 : ∀ (x2 : Int32) (S : zT), wpb_X5_passes_k7_42 Q (wpl_X5_passes_k7_2 Q k2) x2 S → ∀ (H : Heap) (locs : List Loc), va_P D zCl (bX5 ah cy S) H → va_D A (bX5 ah cy S) → va_S A s.heap H locs → ∀ ls : Array Slot, lv_has ls 3 [(0, .ref (ah 99)), (1, .ref (ah 7)), (2, .int x2)] → W p l e rm_X5_passes_k7 s m ([.ref (ah 99), .ref (ah 7)] : List Value).toArray below meth c H locs 0 0 (MQ below (va_Qv (S := zT) (fun (u : zT) => Q u) (fun u t => va_P D zCl ((fun (u : zT) => (bX5 ah cy u)) u) t.heap) A) ([.ref (ah 99), .ref (ah 7)] : List Value).toArray s 0 0 A) (F0 m 42 ls []) := by
        intro x2 S h H locs hP hD hS ls hl
        refine lv_aload_n hx hb dX5_passes_42 rfl (lv_at hl 0 rfl) ?_
        refine lv_dup hx hb dX5_passes_43 rfl ?_
        refine va_get (D := D) (ci := 5) (v := .int (S 25 0)) (C := RX5) (T := TX5) (N := 41) hx hb htB ziX5 hown hK hP 0 rfl rfl 25 (by decide) (htB _ zm_312) (fun _ h9 => h9) rfl dX5_passes_44 ?_
        refine lv_iconst (v := (1 : Int32)) hx hb dX5_passes_47 (by decide) ?_
        refine lv_iadd hx hb dX5_passes_48 ?_
        refine va_put (D := D) (ci := 5) (v := .int ((S 25 0) + (1 : Int32))) (ty := .int) (C := RX5) (T := TX5) (N := 41) hx hb htB ziX5 tyX5 tyX5_ok nmX5 hown hK hP hD hS 0 rfl rfl 25 (by decide) (htB _ zm_312) (fun _ h9 => h9) rfl (tyX5_ok 25 (by decide)) rfl rfl (Nat.le_of_ble_eq_true rfl) dX5_passes_49 (fun H locs hP hD hS => ?_)
        obtain ⟨S_49, eS_49⟩ : ∃ z : zT, z = (va_up S 25 (fun _ => ((S 25 0) + (1 : Int32)))) := ⟨_, rfl⟩
        replace h := h S_49 eS_49
        replace hP : va_P D zCl (bX5 ah cy S_49) H := by rw [eS_49]; exact hP
        replace hD : va_D A (bX5 ah cy S_49) := by rw [eS_49]; exact hD
        obtain ⟨y52, ey52⟩ : ∃ z : Int32, z = (x2 + (1 : Int32)) := ⟨_, rfl⟩
        replace h := h y52 ey52
        refine lv_iinc (v := y52) (lv' := [(2, .int y52), (0, .ref (ah 99)), (1, .ref (ah 7))]) hx hb dX5_passes_52 hl (k := 2) rfl (by rw [ey52]; rfl) (by decide) rfl (fun ls hl => ?_)
        refine lv_goto (tgt := 2) hx hb dX5_passes_55 (by decide) ?_
        exact ih2 y52 S_49 h H locs hP hD hS ls (lv_sub hl [1, 2, 0] rfl)
      intro x2 S h H locs hP hD hS ls hl
      refine lv_iload_n hx hb dX5_passes_2 rfl (lv_at hl 2 rfl) ?_
      refine lv_aload_n hx hb dX5_passes_3 rfl (lv_at hl 1 rfl) ?_
      refine va_alen (D := D) (v := (8 : Int32)) hx hb hK hP 8 0 rfl rfl rfl dX5_passes_4 ?_
      refine lv_icmp_ge (tgt := 58) hx hb dX5_passes_5 (by decide) (fun c5 => ?_) (fun c5 => ?_)
      · replace h := And.left h c5
        exact W.vret hx hb hr (fun t ht hW => ⟨⟨S, rfl, h, zP_h ht hP⟩, hS.F ht⟩) hS.2.2 dX5_passes_58
      · replace h := And.right h c5
        refine lv_aload_n hx hb dX5_passes_8 rfl (lv_at hl 0 rfl) ?_
        refine va_get (D := D) (ci := 5) (v := .int (S 24 0)) (C := RX5) (T := TX5) (N := 41) hx hb htB ziX5 hown hK hP 0 rfl rfl 24 (by decide) (htB _ zm_313) (fun _ h9 => h9) rfl dX5_passes_9 ?_
        refine lv_if_eq (tgt := 30) hx hb dX5_passes_12 (by decide) (fun c12 => ?_) (fun c12 => ?_)
        · replace h := And.left h c12
          refine lv_aload_n hx hb dX5_passes_30 rfl (lv_at hl 1 rfl) ?_
          refine lv_iload_n hx hb dX5_passes_31 rfl (lv_at hl 2 rfl) ?_
          refine lv_aload_n hx hb dX5_passes_32 rfl (lv_at hl 0 rfl) ?_
          refine va_get (D := D) (ci := 5) (v := .ref (ah 22)) (C := RX5) (T := TX5) (N := 41) hx hb htB ziX5 hown hK hP 0 rfl rfl 22 (by decide) (htB _ zm_314) (fun _ h9 => h9) rfl dX5_passes_33 ?_
          refine lv_aload_n hx hb dX5_passes_36 rfl (lv_at hl 0 rfl) ?_
          refine va_get (D := D) (ci := 5) (v := .int (S 25 0)) (C := RX5) (T := TX5) (N := 41) hx hb htB ziX5 hown hK hP 0 rfl rfl 25 (by decide) (htB _ zm_312) (fun _ h9 => h9) rfl dX5_passes_37 ?_
          refine va_iald (D := D) hx hb hK hP 18 0 rfl rfl (And.left h) dX5_passes_40 ?_
          replace h := And.right h
          refine va_iast (D := D) hx hb hK hP hD hS 8 0 rfl rfl (And.left h) dX5_passes_41 (fun H locs hP hD hS => ?_)
          replace h := And.right h
          obtain ⟨S_41, eS_41⟩ : ∃ z : zT, z = (va_up S 7 (upd (S 7) x2.toNatClampNeg (S 22 (S 25 0).toNatClampNeg))) := ⟨_, rfl⟩
          replace h := h S_41 eS_41
          replace hP : va_P D zCl (bX5 ah cy S_41) H := by rw [eS_41]; exact hP
          replace hD : va_D A (bX5 ah cy S_41) := by rw [eS_41]; exact hD
          exact L42 x2 S_41 h H locs hP hD hS ls (lv_sub hl [0, 1, 2] rfl)
        · replace h := And.right h c12
          refine lv_aload_n hx hb dX5_passes_15 rfl (lv_at hl 0 rfl) ?_
          refine va_get (D := D) (ci := 5) (v := .ref (ah 22)) (C := RX5) (T := TX5) (N := 41) hx hb htB ziX5 hown hK hP 0 rfl rfl 22 (by decide) (htB _ zm_314) (fun _ h9 => h9) rfl dX5_passes_16 ?_
          refine lv_aload_n hx hb dX5_passes_19 rfl (lv_at hl 0 rfl) ?_
          refine va_get (D := D) (ci := 5) (v := .int (S 25 0)) (C := RX5) (T := TX5) (N := 41) hx hb htB ziX5 hown hK hP 0 rfl rfl 25 (by decide) (htB _ zm_312) (fun _ h9 => h9) rfl dX5_passes_20 ?_
          refine lv_aload_n hx hb dX5_passes_23 rfl (lv_at hl 1 rfl) ?_
          refine lv_iload_n hx hb dX5_passes_24 rfl (lv_at hl 2 rfl) ?_
          refine va_iald (D := D) hx hb hK hP 8 0 rfl rfl (And.left h) dX5_passes_25 ?_
          replace h := And.right h
          refine va_iast (D := D) hx hb hK hP hD hS 18 0 rfl rfl (And.left h) dX5_passes_26 (fun H locs hP hD hS => ?_)
          replace h := And.right h
          obtain ⟨S_26, eS_26⟩ : ∃ z : zT, z = (va_up S 22 (upd (S 22) (S 25 0).toNatClampNeg (S 7 x2.toNatClampNeg))) := ⟨_, rfl⟩
          replace h := h S_26 eS_26
          replace hP : va_P D zCl (bX5 ah cy S_26) H := by rw [eS_26]; exact hP
          replace hD : va_D A (bX5 ah cy S_26) := by rw [eS_26]; exact hD
          refine lv_goto (tgt := 42) hx hb dX5_passes_27 (by decide) ?_
          exact L42 x2 S_26 h H locs hP hD hS ls (lv_sub hl [0, 1, 2] rfl)
  refine lv_iconst (v := (0 : Int32)) hx hb dX5_passes_0 (by decide) ?_
  refine lv_istore_n (lv' := [(2, .int (0 : Int32)), (0, .ref (ah 99)), (1, .ref (ah 7))]) hx hb dX5_passes_1 rfl hl (by decide) rfl (fun ls hl => ?_)
  obtain ⟨nn, h⟩ := h
  exact L2 nn (0 : Int32) S h H locs hP hD hS ls (lv_sub hl [1, 2, 0] rfl)
set_option maxHeartbeats 4000000 in
set_option maxRecDepth 100000 in
theorem c_X5_passes_k8 (l : Launch) (D : va_G) (cy : ClassId) (ah : Nat → Nat) (sz : Nat) (S : zT) {Q : zT → Prop} (h : wp_X5_passes_k8 S Q) : Met l yX5_passes w_X5_passes rm_X5_passes_k8 (va_Pc [.ref (ah 99), .ref (ah 8)] (zM D cy (bX5 ah cy S) sz)) (va_Qv (S := zT) (fun (u : zT) => Q u) (fun u t => va_P D zCl ((fun (u : zT) => (bX5 ah cy u)) u) t.heap) (va_A (bX5 ah cy S) sz)) 0 0 (va_A (bX5 ah cy S) sz) := by
  refine zOf_v (by decide) (Nat.le_of_ble_eq_true rfl) ?_
  intro p e s m below meth c ls A H locs hx hb hr hml hown htB hlocks hK hN hP hD hS hA hl
  replace hl : lv_has ls 3 [(0, .ref (ah 99)), (1, .ref (ah 8))] := hl
  have L2 : ∀ (k2 : Nat) (x2 : Int32) (S : zT), wpl_X5_passes_k8_2 Q k2 x2 S → ∀ (H : Heap) (locs : List Loc), va_P D zCl (bX5 ah cy S) H → va_D A (bX5 ah cy S) → va_S A s.heap H locs → ∀ ls : Array Slot, lv_has ls 3 [(0, .ref (ah 99)), (1, .ref (ah 8)), (2, .int x2)] → W p l e rm_X5_passes_k8 s m ([.ref (ah 99), .ref (ah 8)] : List Value).toArray below meth c H locs 0 0 (MQ below (va_Qv (S := zT) (fun (u : zT) => Q u) (fun u t => va_P D zCl ((fun (u : zT) => (bX5 ah cy u)) u) t.heap) A) ([.ref (ah 99), .ref (ah 8)] : List Value).toArray s 0 0 A) (F0 m 2 ls []) := by
    intro k2
    induction k2 with
    | zero => exact fun x2 S h => False.elim h
    | succ k2 ih2 =>
      have L42 : ∀ (x2 : Int32) (S : zT), wpb_X5_passes_k8_42 Q (wpl_X5_passes_k8_2 Q k2) x2 S → ∀ (H : Heap) (locs : List Loc), va_P D zCl (bX5 ah cy S) H → va_D A (bX5 ah cy S) → va_S A s.heap H locs → ∀ ls : Array Slot, lv_has ls 3 [(0, .ref (ah 99)), (1, .ref (ah 8)), (2, .int x2)] → W p l e rm_X5_passes_k8 s m ([.ref (ah 99), .ref (ah 8)] : List Value).toArray below meth c H locs 0 0 (MQ below (va_Qv (S := zT) (fun (u : zT) => Q u) (fun u t => va_P D zCl ((fun (u : zT) => (bX5 ah cy u)) u) t.heap) A) ([.ref (ah 99), .ref (ah 8)] : List Value).toArray s 0 0 A) (F0 m 42 ls []) := by
        intro x2 S h H locs hP hD hS ls hl
        refine lv_aload_n hx hb dX5_passes_42 rfl (lv_at hl 0 rfl) ?_
        refine lv_dup hx hb dX5_passes_43 rfl ?_
        refine va_get (D := D) (ci := 5) (v := .int (S 25 0)) (C := RX5) (T := TX5) (N := 41) hx hb htB ziX5 hown hK hP 0 rfl rfl 25 (by decide) (htB _ zm_312) (fun _ h9 => h9) rfl dX5_passes_44 ?_
        refine lv_iconst (v := (1 : Int32)) hx hb dX5_passes_47 (by decide) ?_
        refine lv_iadd hx hb dX5_passes_48 ?_
        refine va_put (D := D) (ci := 5) (v := .int ((S 25 0) + (1 : Int32))) (ty := .int) (C := RX5) (T := TX5) (N := 41) hx hb htB ziX5 tyX5 tyX5_ok nmX5 hown hK hP hD hS 0 rfl rfl 25 (by decide) (htB _ zm_312) (fun _ h9 => h9) rfl (tyX5_ok 25 (by decide)) rfl rfl (Nat.le_of_ble_eq_true rfl) dX5_passes_49 (fun H locs hP hD hS => ?_)
        obtain ⟨S_49, eS_49⟩ : ∃ z : zT, z = (va_up S 25 (fun _ => ((S 25 0) + (1 : Int32)))) := ⟨_, rfl⟩
        replace h := h S_49 eS_49
        replace hP : va_P D zCl (bX5 ah cy S_49) H := by rw [eS_49]; exact hP
        replace hD : va_D A (bX5 ah cy S_49) := by rw [eS_49]; exact hD
        obtain ⟨y52, ey52⟩ : ∃ z : Int32, z = (x2 + (1 : Int32)) := ⟨_, rfl⟩
        replace h := h y52 ey52
        refine lv_iinc (v := y52) (lv' := [(2, .int y52), (0, .ref (ah 99)), (1, .ref (ah 8))]) hx hb dX5_passes_52 hl (k := 2) rfl (by rw [ey52]; rfl) (by decide) rfl (fun ls hl => ?_)
        refine lv_goto (tgt := 2) hx hb dX5_passes_55 (by decide) ?_
        exact ih2 y52 S_49 h H locs hP hD hS ls (lv_sub hl [1, 2, 0] rfl)
      intro x2 S h H locs hP hD hS ls hl
      refine lv_iload_n hx hb dX5_passes_2 rfl (lv_at hl 2 rfl) ?_
      refine lv_aload_n hx hb dX5_passes_3 rfl (lv_at hl 1 rfl) ?_
      refine va_alen (D := D) (v := (5 : Int32)) hx hb hK hP 9 0 rfl rfl rfl dX5_passes_4 ?_
      refine lv_icmp_ge (tgt := 58) hx hb dX5_passes_5 (by decide) (fun c5 => ?_) (fun c5 => ?_)
      · replace h := And.left h c5
        exact W.vret hx hb hr (fun t ht hW => ⟨⟨S, rfl, h, zP_h ht hP⟩, hS.F ht⟩) hS.2.2 dX5_passes_58
      · replace h := And.right h c5
        refine lv_aload_n hx hb dX5_passes_8 rfl (lv_at hl 0 rfl) ?_
        refine va_get (D := D) (ci := 5) (v := .int (S 24 0)) (C := RX5) (T := TX5) (N := 41) hx hb htB ziX5 hown hK hP 0 rfl rfl 24 (by decide) (htB _ zm_313) (fun _ h9 => h9) rfl dX5_passes_9 ?_
        refine lv_if_eq (tgt := 30) hx hb dX5_passes_12 (by decide) (fun c12 => ?_) (fun c12 => ?_)
        · replace h := And.left h c12
          refine lv_aload_n hx hb dX5_passes_30 rfl (lv_at hl 1 rfl) ?_
          refine lv_iload_n hx hb dX5_passes_31 rfl (lv_at hl 2 rfl) ?_
          refine lv_aload_n hx hb dX5_passes_32 rfl (lv_at hl 0 rfl) ?_
          refine va_get (D := D) (ci := 5) (v := .ref (ah 22)) (C := RX5) (T := TX5) (N := 41) hx hb htB ziX5 hown hK hP 0 rfl rfl 22 (by decide) (htB _ zm_314) (fun _ h9 => h9) rfl dX5_passes_33 ?_
          refine lv_aload_n hx hb dX5_passes_36 rfl (lv_at hl 0 rfl) ?_
          refine va_get (D := D) (ci := 5) (v := .int (S 25 0)) (C := RX5) (T := TX5) (N := 41) hx hb htB ziX5 hown hK hP 0 rfl rfl 25 (by decide) (htB _ zm_312) (fun _ h9 => h9) rfl dX5_passes_37 ?_
          refine va_iald (D := D) hx hb hK hP 18 0 rfl rfl (And.left h) dX5_passes_40 ?_
          replace h := And.right h
          refine va_iast (D := D) hx hb hK hP hD hS 9 0 rfl rfl (And.left h) dX5_passes_41 (fun H locs hP hD hS => ?_)
          replace h := And.right h
          obtain ⟨S_41, eS_41⟩ : ∃ z : zT, z = (va_up S 8 (upd (S 8) x2.toNatClampNeg (S 22 (S 25 0).toNatClampNeg))) := ⟨_, rfl⟩
          replace h := h S_41 eS_41
          replace hP : va_P D zCl (bX5 ah cy S_41) H := by rw [eS_41]; exact hP
          replace hD : va_D A (bX5 ah cy S_41) := by rw [eS_41]; exact hD
          exact L42 x2 S_41 h H locs hP hD hS ls (lv_sub hl [0, 1, 2] rfl)
        · replace h := And.right h c12
          refine lv_aload_n hx hb dX5_passes_15 rfl (lv_at hl 0 rfl) ?_
          refine va_get (D := D) (ci := 5) (v := .ref (ah 22)) (C := RX5) (T := TX5) (N := 41) hx hb htB ziX5 hown hK hP 0 rfl rfl 22 (by decide) (htB _ zm_314) (fun _ h9 => h9) rfl dX5_passes_16 ?_
          refine lv_aload_n hx hb dX5_passes_19 rfl (lv_at hl 0 rfl) ?_
          refine va_get (D := D) (ci := 5) (v := .int (S 25 0)) (C := RX5) (T := TX5) (N := 41) hx hb htB ziX5 hown hK hP 0 rfl rfl 25 (by decide) (htB _ zm_312) (fun _ h9 => h9) rfl dX5_passes_20 ?_
          refine lv_aload_n hx hb dX5_passes_23 rfl (lv_at hl 1 rfl) ?_
          refine lv_iload_n hx hb dX5_passes_24 rfl (lv_at hl 2 rfl) ?_
          refine va_iald (D := D) hx hb hK hP 9 0 rfl rfl (And.left h) dX5_passes_25 ?_
          replace h := And.right h
          refine va_iast (D := D) hx hb hK hP hD hS 18 0 rfl rfl (And.left h) dX5_passes_26 (fun H locs hP hD hS => ?_)
          replace h := And.right h
          obtain ⟨S_26, eS_26⟩ : ∃ z : zT, z = (va_up S 22 (upd (S 22) (S 25 0).toNatClampNeg (S 8 x2.toNatClampNeg))) := ⟨_, rfl⟩
          replace h := h S_26 eS_26
          replace hP : va_P D zCl (bX5 ah cy S_26) H := by rw [eS_26]; exact hP
          replace hD : va_D A (bX5 ah cy S_26) := by rw [eS_26]; exact hD
          refine lv_goto (tgt := 42) hx hb dX5_passes_27 (by decide) ?_
          exact L42 x2 S_26 h H locs hP hD hS ls (lv_sub hl [0, 1, 2] rfl)
  refine lv_iconst (v := (0 : Int32)) hx hb dX5_passes_0 (by decide) ?_
  refine lv_istore_n (lv' := [(2, .int (0 : Int32)), (0, .ref (ah 99)), (1, .ref (ah 8))]) hx hb dX5_passes_1 rfl hl (by decide) rfl (fun ls hl => ?_)
  obtain ⟨nn, h⟩ := h
  exact L2 nn (0 : Int32) S h H locs hP hD hS ls (lv_sub hl [1, 2, 0] rfl)
set_option maxHeartbeats 4000000 in
set_option maxRecDepth 100000 in
theorem c_X5_passes_k9 (l : Launch) (D : va_G) (cy : ClassId) (ah : Nat → Nat) (sz : Nat) (S : zT) {Q : zT → Prop} (h : wp_X5_passes_k9 S Q) : Met l yX5_passes w_X5_passes rm_X5_passes_k9 (va_Pc [.ref (ah 99), .ref (ah 9)] (zM D cy (bX5 ah cy S) sz)) (va_Qv (S := zT) (fun (u : zT) => Q u) (fun u t => va_P D zCl ((fun (u : zT) => (bX5 ah cy u)) u) t.heap) (va_A (bX5 ah cy S) sz)) 0 0 (va_A (bX5 ah cy S) sz) := by
  refine zOf_v (by decide) (Nat.le_of_ble_eq_true rfl) ?_
  intro p e s m below meth c ls A H locs hx hb hr hml hown htB hlocks hK hN hP hD hS hA hl
  replace hl : lv_has ls 3 [(0, .ref (ah 99)), (1, .ref (ah 9))] := hl
  have L2 : ∀ (k2 : Nat) (x2 : Int32) (S : zT), wpl_X5_passes_k9_2 Q k2 x2 S → ∀ (H : Heap) (locs : List Loc), va_P D zCl (bX5 ah cy S) H → va_D A (bX5 ah cy S) → va_S A s.heap H locs → ∀ ls : Array Slot, lv_has ls 3 [(0, .ref (ah 99)), (1, .ref (ah 9)), (2, .int x2)] → W p l e rm_X5_passes_k9 s m ([.ref (ah 99), .ref (ah 9)] : List Value).toArray below meth c H locs 0 0 (MQ below (va_Qv (S := zT) (fun (u : zT) => Q u) (fun u t => va_P D zCl ((fun (u : zT) => (bX5 ah cy u)) u) t.heap) A) ([.ref (ah 99), .ref (ah 9)] : List Value).toArray s 0 0 A) (F0 m 2 ls []) := by
    intro k2
    induction k2 with
    | zero => exact fun x2 S h => False.elim h
    | succ k2 ih2 =>
      have L42 : ∀ (x2 : Int32) (S : zT), wpb_X5_passes_k9_42 Q (wpl_X5_passes_k9_2 Q k2) x2 S → ∀ (H : Heap) (locs : List Loc), va_P D zCl (bX5 ah cy S) H → va_D A (bX5 ah cy S) → va_S A s.heap H locs → ∀ ls : Array Slot, lv_has ls 3 [(0, .ref (ah 99)), (1, .ref (ah 9)), (2, .int x2)] → W p l e rm_X5_passes_k9 s m ([.ref (ah 99), .ref (ah 9)] : List Value).toArray below meth c H locs 0 0 (MQ below (va_Qv (S := zT) (fun (u : zT) => Q u) (fun u t => va_P D zCl ((fun (u : zT) => (bX5 ah cy u)) u) t.heap) A) ([.ref (ah 99), .ref (ah 9)] : List Value).toArray s 0 0 A) (F0 m 42 ls []) := by
        intro x2 S h H locs hP hD hS ls hl
        refine lv_aload_n hx hb dX5_passes_42 rfl (lv_at hl 0 rfl) ?_
        refine lv_dup hx hb dX5_passes_43 rfl ?_
        refine va_get (D := D) (ci := 5) (v := .int (S 25 0)) (C := RX5) (T := TX5) (N := 41) hx hb htB ziX5 hown hK hP 0 rfl rfl 25 (by decide) (htB _ zm_312) (fun _ h9 => h9) rfl dX5_passes_44 ?_
        refine lv_iconst (v := (1 : Int32)) hx hb dX5_passes_47 (by decide) ?_
        refine lv_iadd hx hb dX5_passes_48 ?_
        refine va_put (D := D) (ci := 5) (v := .int ((S 25 0) + (1 : Int32))) (ty := .int) (C := RX5) (T := TX5) (N := 41) hx hb htB ziX5 tyX5 tyX5_ok nmX5 hown hK hP hD hS 0 rfl rfl 25 (by decide) (htB _ zm_312) (fun _ h9 => h9) rfl (tyX5_ok 25 (by decide)) rfl rfl (Nat.le_of_ble_eq_true rfl) dX5_passes_49 (fun H locs hP hD hS => ?_)
        obtain ⟨S_49, eS_49⟩ : ∃ z : zT, z = (va_up S 25 (fun _ => ((S 25 0) + (1 : Int32)))) := ⟨_, rfl⟩
        replace h := h S_49 eS_49
        replace hP : va_P D zCl (bX5 ah cy S_49) H := by rw [eS_49]; exact hP
        replace hD : va_D A (bX5 ah cy S_49) := by rw [eS_49]; exact hD
        obtain ⟨y52, ey52⟩ : ∃ z : Int32, z = (x2 + (1 : Int32)) := ⟨_, rfl⟩
        replace h := h y52 ey52
        refine lv_iinc (v := y52) (lv' := [(2, .int y52), (0, .ref (ah 99)), (1, .ref (ah 9))]) hx hb dX5_passes_52 hl (k := 2) rfl (by rw [ey52]; rfl) (by decide) rfl (fun ls hl => ?_)
        refine lv_goto (tgt := 2) hx hb dX5_passes_55 (by decide) ?_
        exact ih2 y52 S_49 h H locs hP hD hS ls (lv_sub hl [1, 2, 0] rfl)
      intro x2 S h H locs hP hD hS ls hl
      refine lv_iload_n hx hb dX5_passes_2 rfl (lv_at hl 2 rfl) ?_
      refine lv_aload_n hx hb dX5_passes_3 rfl (lv_at hl 1 rfl) ?_
      refine va_alen (D := D) (v := (10 : Int32)) hx hb hK hP 10 0 rfl rfl rfl dX5_passes_4 ?_
      refine lv_icmp_ge (tgt := 58) hx hb dX5_passes_5 (by decide) (fun c5 => ?_) (fun c5 => ?_)
      · replace h := And.left h c5
        exact W.vret hx hb hr (fun t ht hW => ⟨⟨S, rfl, h, zP_h ht hP⟩, hS.F ht⟩) hS.2.2 dX5_passes_58
      · replace h := And.right h c5
        refine lv_aload_n hx hb dX5_passes_8 rfl (lv_at hl 0 rfl) ?_
        refine va_get (D := D) (ci := 5) (v := .int (S 24 0)) (C := RX5) (T := TX5) (N := 41) hx hb htB ziX5 hown hK hP 0 rfl rfl 24 (by decide) (htB _ zm_313) (fun _ h9 => h9) rfl dX5_passes_9 ?_
        refine lv_if_eq (tgt := 30) hx hb dX5_passes_12 (by decide) (fun c12 => ?_) (fun c12 => ?_)
        · replace h := And.left h c12
          refine lv_aload_n hx hb dX5_passes_30 rfl (lv_at hl 1 rfl) ?_
          refine lv_iload_n hx hb dX5_passes_31 rfl (lv_at hl 2 rfl) ?_
          refine lv_aload_n hx hb dX5_passes_32 rfl (lv_at hl 0 rfl) ?_
          refine va_get (D := D) (ci := 5) (v := .ref (ah 22)) (C := RX5) (T := TX5) (N := 41) hx hb htB ziX5 hown hK hP 0 rfl rfl 22 (by decide) (htB _ zm_314) (fun _ h9 => h9) rfl dX5_passes_33 ?_
          refine lv_aload_n hx hb dX5_passes_36 rfl (lv_at hl 0 rfl) ?_
          refine va_get (D := D) (ci := 5) (v := .int (S 25 0)) (C := RX5) (T := TX5) (N := 41) hx hb htB ziX5 hown hK hP 0 rfl rfl 25 (by decide) (htB _ zm_312) (fun _ h9 => h9) rfl dX5_passes_37 ?_
          refine va_iald (D := D) hx hb hK hP 18 0 rfl rfl (And.left h) dX5_passes_40 ?_
          replace h := And.right h
          refine va_iast (D := D) hx hb hK hP hD hS 10 0 rfl rfl (And.left h) dX5_passes_41 (fun H locs hP hD hS => ?_)
          replace h := And.right h
          obtain ⟨S_41, eS_41⟩ : ∃ z : zT, z = (va_up S 9 (upd (S 9) x2.toNatClampNeg (S 22 (S 25 0).toNatClampNeg))) := ⟨_, rfl⟩
          replace h := h S_41 eS_41
          replace hP : va_P D zCl (bX5 ah cy S_41) H := by rw [eS_41]; exact hP
          replace hD : va_D A (bX5 ah cy S_41) := by rw [eS_41]; exact hD
          exact L42 x2 S_41 h H locs hP hD hS ls (lv_sub hl [0, 1, 2] rfl)
        · replace h := And.right h c12
          refine lv_aload_n hx hb dX5_passes_15 rfl (lv_at hl 0 rfl) ?_
          refine va_get (D := D) (ci := 5) (v := .ref (ah 22)) (C := RX5) (T := TX5) (N := 41) hx hb htB ziX5 hown hK hP 0 rfl rfl 22 (by decide) (htB _ zm_314) (fun _ h9 => h9) rfl dX5_passes_16 ?_
          refine lv_aload_n hx hb dX5_passes_19 rfl (lv_at hl 0 rfl) ?_
          refine va_get (D := D) (ci := 5) (v := .int (S 25 0)) (C := RX5) (T := TX5) (N := 41) hx hb htB ziX5 hown hK hP 0 rfl rfl 25 (by decide) (htB _ zm_312) (fun _ h9 => h9) rfl dX5_passes_20 ?_
          refine lv_aload_n hx hb dX5_passes_23 rfl (lv_at hl 1 rfl) ?_
          refine lv_iload_n hx hb dX5_passes_24 rfl (lv_at hl 2 rfl) ?_
          refine va_iald (D := D) hx hb hK hP 10 0 rfl rfl (And.left h) dX5_passes_25 ?_
          replace h := And.right h
          refine va_iast (D := D) hx hb hK hP hD hS 18 0 rfl rfl (And.left h) dX5_passes_26 (fun H locs hP hD hS => ?_)
          replace h := And.right h
          obtain ⟨S_26, eS_26⟩ : ∃ z : zT, z = (va_up S 22 (upd (S 22) (S 25 0).toNatClampNeg (S 9 x2.toNatClampNeg))) := ⟨_, rfl⟩
          replace h := h S_26 eS_26
          replace hP : va_P D zCl (bX5 ah cy S_26) H := by rw [eS_26]; exact hP
          replace hD : va_D A (bX5 ah cy S_26) := by rw [eS_26]; exact hD
          refine lv_goto (tgt := 42) hx hb dX5_passes_27 (by decide) ?_
          exact L42 x2 S_26 h H locs hP hD hS ls (lv_sub hl [0, 1, 2] rfl)
  refine lv_iconst (v := (0 : Int32)) hx hb dX5_passes_0 (by decide) ?_
  refine lv_istore_n (lv' := [(2, .int (0 : Int32)), (0, .ref (ah 99)), (1, .ref (ah 9))]) hx hb dX5_passes_1 rfl hl (by decide) rfl (fun ls hl => ?_)
  obtain ⟨nn, h⟩ := h
  exact L2 nn (0 : Int32) S h H locs hP hD hS ls (lv_sub hl [1, 2, 0] rfl)
set_option maxHeartbeats 4000000 in
set_option maxRecDepth 100000 in
theorem c_X5_passes_k10 (l : Launch) (D : va_G) (cy : ClassId) (ah : Nat → Nat) (sz : Nat) (S : zT) {Q : zT → Prop} (h : wp_X5_passes_k10 S Q) : Met l yX5_passes w_X5_passes rm_X5_passes_k10 (va_Pc [.ref (ah 99), .ref (ah 10)] (zM D cy (bX5 ah cy S) sz)) (va_Qv (S := zT) (fun (u : zT) => Q u) (fun u t => va_P D zCl ((fun (u : zT) => (bX5 ah cy u)) u) t.heap) (va_A (bX5 ah cy S) sz)) 0 0 (va_A (bX5 ah cy S) sz) := by
  refine zOf_v (by decide) (Nat.le_of_ble_eq_true rfl) ?_
  intro p e s m below meth c ls A H locs hx hb hr hml hown htB hlocks hK hN hP hD hS hA hl
  replace hl : lv_has ls 3 [(0, .ref (ah 99)), (1, .ref (ah 10))] := hl
  have L2 : ∀ (k2 : Nat) (x2 : Int32) (S : zT), wpl_X5_passes_k10_2 Q k2 x2 S → ∀ (H : Heap) (locs : List Loc), va_P D zCl (bX5 ah cy S) H → va_D A (bX5 ah cy S) → va_S A s.heap H locs → ∀ ls : Array Slot, lv_has ls 3 [(0, .ref (ah 99)), (1, .ref (ah 10)), (2, .int x2)] → W p l e rm_X5_passes_k10 s m ([.ref (ah 99), .ref (ah 10)] : List Value).toArray below meth c H locs 0 0 (MQ below (va_Qv (S := zT) (fun (u : zT) => Q u) (fun u t => va_P D zCl ((fun (u : zT) => (bX5 ah cy u)) u) t.heap) A) ([.ref (ah 99), .ref (ah 10)] : List Value).toArray s 0 0 A) (F0 m 2 ls []) := by
    intro k2
    induction k2 with
    | zero => exact fun x2 S h => False.elim h
    | succ k2 ih2 =>
      have L42 : ∀ (x2 : Int32) (S : zT), wpb_X5_passes_k10_42 Q (wpl_X5_passes_k10_2 Q k2) x2 S → ∀ (H : Heap) (locs : List Loc), va_P D zCl (bX5 ah cy S) H → va_D A (bX5 ah cy S) → va_S A s.heap H locs → ∀ ls : Array Slot, lv_has ls 3 [(0, .ref (ah 99)), (1, .ref (ah 10)), (2, .int x2)] → W p l e rm_X5_passes_k10 s m ([.ref (ah 99), .ref (ah 10)] : List Value).toArray below meth c H locs 0 0 (MQ below (va_Qv (S := zT) (fun (u : zT) => Q u) (fun u t => va_P D zCl ((fun (u : zT) => (bX5 ah cy u)) u) t.heap) A) ([.ref (ah 99), .ref (ah 10)] : List Value).toArray s 0 0 A) (F0 m 42 ls []) := by
        intro x2 S h H locs hP hD hS ls hl
        refine lv_aload_n hx hb dX5_passes_42 rfl (lv_at hl 0 rfl) ?_
        refine lv_dup hx hb dX5_passes_43 rfl ?_
        refine va_get (D := D) (ci := 5) (v := .int (S 25 0)) (C := RX5) (T := TX5) (N := 41) hx hb htB ziX5 hown hK hP 0 rfl rfl 25 (by decide) (htB _ zm_312) (fun _ h9 => h9) rfl dX5_passes_44 ?_
        refine lv_iconst (v := (1 : Int32)) hx hb dX5_passes_47 (by decide) ?_
        refine lv_iadd hx hb dX5_passes_48 ?_
        refine va_put (D := D) (ci := 5) (v := .int ((S 25 0) + (1 : Int32))) (ty := .int) (C := RX5) (T := TX5) (N := 41) hx hb htB ziX5 tyX5 tyX5_ok nmX5 hown hK hP hD hS 0 rfl rfl 25 (by decide) (htB _ zm_312) (fun _ h9 => h9) rfl (tyX5_ok 25 (by decide)) rfl rfl (Nat.le_of_ble_eq_true rfl) dX5_passes_49 (fun H locs hP hD hS => ?_)
        obtain ⟨S_49, eS_49⟩ : ∃ z : zT, z = (va_up S 25 (fun _ => ((S 25 0) + (1 : Int32)))) := ⟨_, rfl⟩
        replace h := h S_49 eS_49
        replace hP : va_P D zCl (bX5 ah cy S_49) H := by rw [eS_49]; exact hP
        replace hD : va_D A (bX5 ah cy S_49) := by rw [eS_49]; exact hD
        obtain ⟨y52, ey52⟩ : ∃ z : Int32, z = (x2 + (1 : Int32)) := ⟨_, rfl⟩
        replace h := h y52 ey52
        refine lv_iinc (v := y52) (lv' := [(2, .int y52), (0, .ref (ah 99)), (1, .ref (ah 10))]) hx hb dX5_passes_52 hl (k := 2) rfl (by rw [ey52]; rfl) (by decide) rfl (fun ls hl => ?_)
        refine lv_goto (tgt := 2) hx hb dX5_passes_55 (by decide) ?_
        exact ih2 y52 S_49 h H locs hP hD hS ls (lv_sub hl [1, 2, 0] rfl)
      intro x2 S h H locs hP hD hS ls hl
      refine lv_iload_n hx hb dX5_passes_2 rfl (lv_at hl 2 rfl) ?_
      refine lv_aload_n hx hb dX5_passes_3 rfl (lv_at hl 1 rfl) ?_
      refine va_alen (D := D) (v := (10 : Int32)) hx hb hK hP 11 0 rfl rfl rfl dX5_passes_4 ?_
      refine lv_icmp_ge (tgt := 58) hx hb dX5_passes_5 (by decide) (fun c5 => ?_) (fun c5 => ?_)
      · replace h := And.left h c5
        exact W.vret hx hb hr (fun t ht hW => ⟨⟨S, rfl, h, zP_h ht hP⟩, hS.F ht⟩) hS.2.2 dX5_passes_58
      · replace h := And.right h c5
        refine lv_aload_n hx hb dX5_passes_8 rfl (lv_at hl 0 rfl) ?_
        refine va_get (D := D) (ci := 5) (v := .int (S 24 0)) (C := RX5) (T := TX5) (N := 41) hx hb htB ziX5 hown hK hP 0 rfl rfl 24 (by decide) (htB _ zm_313) (fun _ h9 => h9) rfl dX5_passes_9 ?_
        refine lv_if_eq (tgt := 30) hx hb dX5_passes_12 (by decide) (fun c12 => ?_) (fun c12 => ?_)
        · replace h := And.left h c12
          refine lv_aload_n hx hb dX5_passes_30 rfl (lv_at hl 1 rfl) ?_
          refine lv_iload_n hx hb dX5_passes_31 rfl (lv_at hl 2 rfl) ?_
          refine lv_aload_n hx hb dX5_passes_32 rfl (lv_at hl 0 rfl) ?_
          refine va_get (D := D) (ci := 5) (v := .ref (ah 22)) (C := RX5) (T := TX5) (N := 41) hx hb htB ziX5 hown hK hP 0 rfl rfl 22 (by decide) (htB _ zm_314) (fun _ h9 => h9) rfl dX5_passes_33 ?_
          refine lv_aload_n hx hb dX5_passes_36 rfl (lv_at hl 0 rfl) ?_
          refine va_get (D := D) (ci := 5) (v := .int (S 25 0)) (C := RX5) (T := TX5) (N := 41) hx hb htB ziX5 hown hK hP 0 rfl rfl 25 (by decide) (htB _ zm_312) (fun _ h9 => h9) rfl dX5_passes_37 ?_
          refine va_iald (D := D) hx hb hK hP 18 0 rfl rfl (And.left h) dX5_passes_40 ?_
          replace h := And.right h
          refine va_iast (D := D) hx hb hK hP hD hS 11 0 rfl rfl (And.left h) dX5_passes_41 (fun H locs hP hD hS => ?_)
          replace h := And.right h
          obtain ⟨S_41, eS_41⟩ : ∃ z : zT, z = (va_up S 10 (upd (S 10) x2.toNatClampNeg (S 22 (S 25 0).toNatClampNeg))) := ⟨_, rfl⟩
          replace h := h S_41 eS_41
          replace hP : va_P D zCl (bX5 ah cy S_41) H := by rw [eS_41]; exact hP
          replace hD : va_D A (bX5 ah cy S_41) := by rw [eS_41]; exact hD
          exact L42 x2 S_41 h H locs hP hD hS ls (lv_sub hl [0, 1, 2] rfl)
        · replace h := And.right h c12
          refine lv_aload_n hx hb dX5_passes_15 rfl (lv_at hl 0 rfl) ?_
          refine va_get (D := D) (ci := 5) (v := .ref (ah 22)) (C := RX5) (T := TX5) (N := 41) hx hb htB ziX5 hown hK hP 0 rfl rfl 22 (by decide) (htB _ zm_314) (fun _ h9 => h9) rfl dX5_passes_16 ?_
          refine lv_aload_n hx hb dX5_passes_19 rfl (lv_at hl 0 rfl) ?_
          refine va_get (D := D) (ci := 5) (v := .int (S 25 0)) (C := RX5) (T := TX5) (N := 41) hx hb htB ziX5 hown hK hP 0 rfl rfl 25 (by decide) (htB _ zm_312) (fun _ h9 => h9) rfl dX5_passes_20 ?_
          refine lv_aload_n hx hb dX5_passes_23 rfl (lv_at hl 1 rfl) ?_
          refine lv_iload_n hx hb dX5_passes_24 rfl (lv_at hl 2 rfl) ?_
          refine va_iald (D := D) hx hb hK hP 11 0 rfl rfl (And.left h) dX5_passes_25 ?_
          replace h := And.right h
          refine va_iast (D := D) hx hb hK hP hD hS 18 0 rfl rfl (And.left h) dX5_passes_26 (fun H locs hP hD hS => ?_)
          replace h := And.right h
          obtain ⟨S_26, eS_26⟩ : ∃ z : zT, z = (va_up S 22 (upd (S 22) (S 25 0).toNatClampNeg (S 10 x2.toNatClampNeg))) := ⟨_, rfl⟩
          replace h := h S_26 eS_26
          replace hP : va_P D zCl (bX5 ah cy S_26) H := by rw [eS_26]; exact hP
          replace hD : va_D A (bX5 ah cy S_26) := by rw [eS_26]; exact hD
          refine lv_goto (tgt := 42) hx hb dX5_passes_27 (by decide) ?_
          exact L42 x2 S_26 h H locs hP hD hS ls (lv_sub hl [0, 1, 2] rfl)
  refine lv_iconst (v := (0 : Int32)) hx hb dX5_passes_0 (by decide) ?_
  refine lv_istore_n (lv' := [(2, .int (0 : Int32)), (0, .ref (ah 99)), (1, .ref (ah 10))]) hx hb dX5_passes_1 rfl hl (by decide) rfl (fun ls hl => ?_)
  obtain ⟨nn, h⟩ := h
  exact L2 nn (0 : Int32) S h H locs hP hD hS ls (lv_sub hl [1, 2, 0] rfl)
set_option maxHeartbeats 4000000 in
set_option maxRecDepth 100000 in
theorem c_X5_passes_k11 (l : Launch) (D : va_G) (cy : ClassId) (ah : Nat → Nat) (sz : Nat) (S : zT) {Q : zT → Prop} (h : wp_X5_passes_k11 S Q) : Met l yX5_passes w_X5_passes rm_X5_passes_k11 (va_Pc [.ref (ah 99), .ref (ah 11)] (zM D cy (bX5 ah cy S) sz)) (va_Qv (S := zT) (fun (u : zT) => Q u) (fun u t => va_P D zCl ((fun (u : zT) => (bX5 ah cy u)) u) t.heap) (va_A (bX5 ah cy S) sz)) 0 0 (va_A (bX5 ah cy S) sz) := by
  refine zOf_v (by decide) (Nat.le_of_ble_eq_true rfl) ?_
  intro p e s m below meth c ls A H locs hx hb hr hml hown htB hlocks hK hN hP hD hS hA hl
  replace hl : lv_has ls 3 [(0, .ref (ah 99)), (1, .ref (ah 11))] := hl
  have L2 : ∀ (k2 : Nat) (x2 : Int32) (S : zT), wpl_X5_passes_k11_2 Q k2 x2 S → ∀ (H : Heap) (locs : List Loc), va_P D zCl (bX5 ah cy S) H → va_D A (bX5 ah cy S) → va_S A s.heap H locs → ∀ ls : Array Slot, lv_has ls 3 [(0, .ref (ah 99)), (1, .ref (ah 11)), (2, .int x2)] → W p l e rm_X5_passes_k11 s m ([.ref (ah 99), .ref (ah 11)] : List Value).toArray below meth c H locs 0 0 (MQ below (va_Qv (S := zT) (fun (u : zT) => Q u) (fun u t => va_P D zCl ((fun (u : zT) => (bX5 ah cy u)) u) t.heap) A) ([.ref (ah 99), .ref (ah 11)] : List Value).toArray s 0 0 A) (F0 m 2 ls []) := by
    intro k2
    induction k2 with
    | zero => exact fun x2 S h => False.elim h
    | succ k2 ih2 =>
      have L42 : ∀ (x2 : Int32) (S : zT), wpb_X5_passes_k11_42 Q (wpl_X5_passes_k11_2 Q k2) x2 S → ∀ (H : Heap) (locs : List Loc), va_P D zCl (bX5 ah cy S) H → va_D A (bX5 ah cy S) → va_S A s.heap H locs → ∀ ls : Array Slot, lv_has ls 3 [(0, .ref (ah 99)), (1, .ref (ah 11)), (2, .int x2)] → W p l e rm_X5_passes_k11 s m ([.ref (ah 99), .ref (ah 11)] : List Value).toArray below meth c H locs 0 0 (MQ below (va_Qv (S := zT) (fun (u : zT) => Q u) (fun u t => va_P D zCl ((fun (u : zT) => (bX5 ah cy u)) u) t.heap) A) ([.ref (ah 99), .ref (ah 11)] : List Value).toArray s 0 0 A) (F0 m 42 ls []) := by
        intro x2 S h H locs hP hD hS ls hl
        refine lv_aload_n hx hb dX5_passes_42 rfl (lv_at hl 0 rfl) ?_
        refine lv_dup hx hb dX5_passes_43 rfl ?_
        refine va_get (D := D) (ci := 5) (v := .int (S 25 0)) (C := RX5) (T := TX5) (N := 41) hx hb htB ziX5 hown hK hP 0 rfl rfl 25 (by decide) (htB _ zm_312) (fun _ h9 => h9) rfl dX5_passes_44 ?_
        refine lv_iconst (v := (1 : Int32)) hx hb dX5_passes_47 (by decide) ?_
        refine lv_iadd hx hb dX5_passes_48 ?_
        refine va_put (D := D) (ci := 5) (v := .int ((S 25 0) + (1 : Int32))) (ty := .int) (C := RX5) (T := TX5) (N := 41) hx hb htB ziX5 tyX5 tyX5_ok nmX5 hown hK hP hD hS 0 rfl rfl 25 (by decide) (htB _ zm_312) (fun _ h9 => h9) rfl (tyX5_ok 25 (by decide)) rfl rfl (Nat.le_of_ble_eq_true rfl) dX5_passes_49 (fun H locs hP hD hS => ?_)
        obtain ⟨S_49, eS_49⟩ : ∃ z : zT, z = (va_up S 25 (fun _ => ((S 25 0) + (1 : Int32)))) := ⟨_, rfl⟩
        replace h := h S_49 eS_49
        replace hP : va_P D zCl (bX5 ah cy S_49) H := by rw [eS_49]; exact hP
        replace hD : va_D A (bX5 ah cy S_49) := by rw [eS_49]; exact hD
        obtain ⟨y52, ey52⟩ : ∃ z : Int32, z = (x2 + (1 : Int32)) := ⟨_, rfl⟩
        replace h := h y52 ey52
        refine lv_iinc (v := y52) (lv' := [(2, .int y52), (0, .ref (ah 99)), (1, .ref (ah 11))]) hx hb dX5_passes_52 hl (k := 2) rfl (by rw [ey52]; rfl) (by decide) rfl (fun ls hl => ?_)
        refine lv_goto (tgt := 2) hx hb dX5_passes_55 (by decide) ?_
        exact ih2 y52 S_49 h H locs hP hD hS ls (lv_sub hl [1, 2, 0] rfl)
      intro x2 S h H locs hP hD hS ls hl
      refine lv_iload_n hx hb dX5_passes_2 rfl (lv_at hl 2 rfl) ?_
      refine lv_aload_n hx hb dX5_passes_3 rfl (lv_at hl 1 rfl) ?_
      refine va_alen (D := D) (v := (10 : Int32)) hx hb hK hP 12 0 rfl rfl rfl dX5_passes_4 ?_
      refine lv_icmp_ge (tgt := 58) hx hb dX5_passes_5 (by decide) (fun c5 => ?_) (fun c5 => ?_)
      · replace h := And.left h c5
        exact W.vret hx hb hr (fun t ht hW => ⟨⟨S, rfl, h, zP_h ht hP⟩, hS.F ht⟩) hS.2.2 dX5_passes_58
      · replace h := And.right h c5
        refine lv_aload_n hx hb dX5_passes_8 rfl (lv_at hl 0 rfl) ?_
        refine va_get (D := D) (ci := 5) (v := .int (S 24 0)) (C := RX5) (T := TX5) (N := 41) hx hb htB ziX5 hown hK hP 0 rfl rfl 24 (by decide) (htB _ zm_313) (fun _ h9 => h9) rfl dX5_passes_9 ?_
        refine lv_if_eq (tgt := 30) hx hb dX5_passes_12 (by decide) (fun c12 => ?_) (fun c12 => ?_)
        · replace h := And.left h c12
          refine lv_aload_n hx hb dX5_passes_30 rfl (lv_at hl 1 rfl) ?_
          refine lv_iload_n hx hb dX5_passes_31 rfl (lv_at hl 2 rfl) ?_
          refine lv_aload_n hx hb dX5_passes_32 rfl (lv_at hl 0 rfl) ?_
          refine va_get (D := D) (ci := 5) (v := .ref (ah 22)) (C := RX5) (T := TX5) (N := 41) hx hb htB ziX5 hown hK hP 0 rfl rfl 22 (by decide) (htB _ zm_314) (fun _ h9 => h9) rfl dX5_passes_33 ?_
          refine lv_aload_n hx hb dX5_passes_36 rfl (lv_at hl 0 rfl) ?_
          refine va_get (D := D) (ci := 5) (v := .int (S 25 0)) (C := RX5) (T := TX5) (N := 41) hx hb htB ziX5 hown hK hP 0 rfl rfl 25 (by decide) (htB _ zm_312) (fun _ h9 => h9) rfl dX5_passes_37 ?_
          refine va_iald (D := D) hx hb hK hP 18 0 rfl rfl (And.left h) dX5_passes_40 ?_
          replace h := And.right h
          refine va_iast (D := D) hx hb hK hP hD hS 12 0 rfl rfl (And.left h) dX5_passes_41 (fun H locs hP hD hS => ?_)
          replace h := And.right h
          obtain ⟨S_41, eS_41⟩ : ∃ z : zT, z = (va_up S 11 (upd (S 11) x2.toNatClampNeg (S 22 (S 25 0).toNatClampNeg))) := ⟨_, rfl⟩
          replace h := h S_41 eS_41
          replace hP : va_P D zCl (bX5 ah cy S_41) H := by rw [eS_41]; exact hP
          replace hD : va_D A (bX5 ah cy S_41) := by rw [eS_41]; exact hD
          exact L42 x2 S_41 h H locs hP hD hS ls (lv_sub hl [0, 1, 2] rfl)
        · replace h := And.right h c12
          refine lv_aload_n hx hb dX5_passes_15 rfl (lv_at hl 0 rfl) ?_
          refine va_get (D := D) (ci := 5) (v := .ref (ah 22)) (C := RX5) (T := TX5) (N := 41) hx hb htB ziX5 hown hK hP 0 rfl rfl 22 (by decide) (htB _ zm_314) (fun _ h9 => h9) rfl dX5_passes_16 ?_
          refine lv_aload_n hx hb dX5_passes_19 rfl (lv_at hl 0 rfl) ?_
          refine va_get (D := D) (ci := 5) (v := .int (S 25 0)) (C := RX5) (T := TX5) (N := 41) hx hb htB ziX5 hown hK hP 0 rfl rfl 25 (by decide) (htB _ zm_312) (fun _ h9 => h9) rfl dX5_passes_20 ?_
          refine lv_aload_n hx hb dX5_passes_23 rfl (lv_at hl 1 rfl) ?_
          refine lv_iload_n hx hb dX5_passes_24 rfl (lv_at hl 2 rfl) ?_
          refine va_iald (D := D) hx hb hK hP 12 0 rfl rfl (And.left h) dX5_passes_25 ?_
          replace h := And.right h
          refine va_iast (D := D) hx hb hK hP hD hS 18 0 rfl rfl (And.left h) dX5_passes_26 (fun H locs hP hD hS => ?_)
          replace h := And.right h
          obtain ⟨S_26, eS_26⟩ : ∃ z : zT, z = (va_up S 22 (upd (S 22) (S 25 0).toNatClampNeg (S 11 x2.toNatClampNeg))) := ⟨_, rfl⟩
          replace h := h S_26 eS_26
          replace hP : va_P D zCl (bX5 ah cy S_26) H := by rw [eS_26]; exact hP
          replace hD : va_D A (bX5 ah cy S_26) := by rw [eS_26]; exact hD
          refine lv_goto (tgt := 42) hx hb dX5_passes_27 (by decide) ?_
          exact L42 x2 S_26 h H locs hP hD hS ls (lv_sub hl [0, 1, 2] rfl)
  refine lv_iconst (v := (0 : Int32)) hx hb dX5_passes_0 (by decide) ?_
  refine lv_istore_n (lv' := [(2, .int (0 : Int32)), (0, .ref (ah 99)), (1, .ref (ah 11))]) hx hb dX5_passes_1 rfl hl (by decide) rfl (fun ls hl => ?_)
  obtain ⟨nn, h⟩ := h
  exact L2 nn (0 : Int32) S h H locs hP hD hS ls (lv_sub hl [1, 2, 0] rfl)
set_option maxHeartbeats 4000000 in
set_option maxRecDepth 100000 in
theorem c_X5_passes_k12 (l : Launch) (D : va_G) (cy : ClassId) (ah : Nat → Nat) (sz : Nat) (S : zT) {Q : zT → Prop} (h : wp_X5_passes_k12 S Q) : Met l yX5_passes w_X5_passes rm_X5_passes_k12 (va_Pc [.ref (ah 99), .ref (ah 12)] (zM D cy (bX5 ah cy S) sz)) (va_Qv (S := zT) (fun (u : zT) => Q u) (fun u t => va_P D zCl ((fun (u : zT) => (bX5 ah cy u)) u) t.heap) (va_A (bX5 ah cy S) sz)) 0 0 (va_A (bX5 ah cy S) sz) := by
  refine zOf_v (by decide) (Nat.le_of_ble_eq_true rfl) ?_
  intro p e s m below meth c ls A H locs hx hb hr hml hown htB hlocks hK hN hP hD hS hA hl
  replace hl : lv_has ls 3 [(0, .ref (ah 99)), (1, .ref (ah 12))] := hl
  have L2 : ∀ (k2 : Nat) (x2 : Int32) (S : zT), wpl_X5_passes_k12_2 Q k2 x2 S → ∀ (H : Heap) (locs : List Loc), va_P D zCl (bX5 ah cy S) H → va_D A (bX5 ah cy S) → va_S A s.heap H locs → ∀ ls : Array Slot, lv_has ls 3 [(0, .ref (ah 99)), (1, .ref (ah 12)), (2, .int x2)] → W p l e rm_X5_passes_k12 s m ([.ref (ah 99), .ref (ah 12)] : List Value).toArray below meth c H locs 0 0 (MQ below (va_Qv (S := zT) (fun (u : zT) => Q u) (fun u t => va_P D zCl ((fun (u : zT) => (bX5 ah cy u)) u) t.heap) A) ([.ref (ah 99), .ref (ah 12)] : List Value).toArray s 0 0 A) (F0 m 2 ls []) := by
    intro k2
    induction k2 with
    | zero => exact fun x2 S h => False.elim h
    | succ k2 ih2 =>
      have L42 : ∀ (x2 : Int32) (S : zT), wpb_X5_passes_k12_42 Q (wpl_X5_passes_k12_2 Q k2) x2 S → ∀ (H : Heap) (locs : List Loc), va_P D zCl (bX5 ah cy S) H → va_D A (bX5 ah cy S) → va_S A s.heap H locs → ∀ ls : Array Slot, lv_has ls 3 [(0, .ref (ah 99)), (1, .ref (ah 12)), (2, .int x2)] → W p l e rm_X5_passes_k12 s m ([.ref (ah 99), .ref (ah 12)] : List Value).toArray below meth c H locs 0 0 (MQ below (va_Qv (S := zT) (fun (u : zT) => Q u) (fun u t => va_P D zCl ((fun (u : zT) => (bX5 ah cy u)) u) t.heap) A) ([.ref (ah 99), .ref (ah 12)] : List Value).toArray s 0 0 A) (F0 m 42 ls []) := by
        intro x2 S h H locs hP hD hS ls hl
        refine lv_aload_n hx hb dX5_passes_42 rfl (lv_at hl 0 rfl) ?_
        refine lv_dup hx hb dX5_passes_43 rfl ?_
        refine va_get (D := D) (ci := 5) (v := .int (S 25 0)) (C := RX5) (T := TX5) (N := 41) hx hb htB ziX5 hown hK hP 0 rfl rfl 25 (by decide) (htB _ zm_312) (fun _ h9 => h9) rfl dX5_passes_44 ?_
        refine lv_iconst (v := (1 : Int32)) hx hb dX5_passes_47 (by decide) ?_
        refine lv_iadd hx hb dX5_passes_48 ?_
        refine va_put (D := D) (ci := 5) (v := .int ((S 25 0) + (1 : Int32))) (ty := .int) (C := RX5) (T := TX5) (N := 41) hx hb htB ziX5 tyX5 tyX5_ok nmX5 hown hK hP hD hS 0 rfl rfl 25 (by decide) (htB _ zm_312) (fun _ h9 => h9) rfl (tyX5_ok 25 (by decide)) rfl rfl (Nat.le_of_ble_eq_true rfl) dX5_passes_49 (fun H locs hP hD hS => ?_)
        obtain ⟨S_49, eS_49⟩ : ∃ z : zT, z = (va_up S 25 (fun _ => ((S 25 0) + (1 : Int32)))) := ⟨_, rfl⟩
        replace h := h S_49 eS_49
        replace hP : va_P D zCl (bX5 ah cy S_49) H := by rw [eS_49]; exact hP
        replace hD : va_D A (bX5 ah cy S_49) := by rw [eS_49]; exact hD
        obtain ⟨y52, ey52⟩ : ∃ z : Int32, z = (x2 + (1 : Int32)) := ⟨_, rfl⟩
        replace h := h y52 ey52
        refine lv_iinc (v := y52) (lv' := [(2, .int y52), (0, .ref (ah 99)), (1, .ref (ah 12))]) hx hb dX5_passes_52 hl (k := 2) rfl (by rw [ey52]; rfl) (by decide) rfl (fun ls hl => ?_)
        refine lv_goto (tgt := 2) hx hb dX5_passes_55 (by decide) ?_
        exact ih2 y52 S_49 h H locs hP hD hS ls (lv_sub hl [1, 2, 0] rfl)
      intro x2 S h H locs hP hD hS ls hl
      refine lv_iload_n hx hb dX5_passes_2 rfl (lv_at hl 2 rfl) ?_
      refine lv_aload_n hx hb dX5_passes_3 rfl (lv_at hl 1 rfl) ?_
      refine va_alen (D := D) (v := (10 : Int32)) hx hb hK hP 13 0 rfl rfl rfl dX5_passes_4 ?_
      refine lv_icmp_ge (tgt := 58) hx hb dX5_passes_5 (by decide) (fun c5 => ?_) (fun c5 => ?_)
      · replace h := And.left h c5
        exact W.vret hx hb hr (fun t ht hW => ⟨⟨S, rfl, h, zP_h ht hP⟩, hS.F ht⟩) hS.2.2 dX5_passes_58
      · replace h := And.right h c5
        refine lv_aload_n hx hb dX5_passes_8 rfl (lv_at hl 0 rfl) ?_
        refine va_get (D := D) (ci := 5) (v := .int (S 24 0)) (C := RX5) (T := TX5) (N := 41) hx hb htB ziX5 hown hK hP 0 rfl rfl 24 (by decide) (htB _ zm_313) (fun _ h9 => h9) rfl dX5_passes_9 ?_
        refine lv_if_eq (tgt := 30) hx hb dX5_passes_12 (by decide) (fun c12 => ?_) (fun c12 => ?_)
        · replace h := And.left h c12
          refine lv_aload_n hx hb dX5_passes_30 rfl (lv_at hl 1 rfl) ?_
          refine lv_iload_n hx hb dX5_passes_31 rfl (lv_at hl 2 rfl) ?_
          refine lv_aload_n hx hb dX5_passes_32 rfl (lv_at hl 0 rfl) ?_
          refine va_get (D := D) (ci := 5) (v := .ref (ah 22)) (C := RX5) (T := TX5) (N := 41) hx hb htB ziX5 hown hK hP 0 rfl rfl 22 (by decide) (htB _ zm_314) (fun _ h9 => h9) rfl dX5_passes_33 ?_
          refine lv_aload_n hx hb dX5_passes_36 rfl (lv_at hl 0 rfl) ?_
          refine va_get (D := D) (ci := 5) (v := .int (S 25 0)) (C := RX5) (T := TX5) (N := 41) hx hb htB ziX5 hown hK hP 0 rfl rfl 25 (by decide) (htB _ zm_312) (fun _ h9 => h9) rfl dX5_passes_37 ?_
          refine va_iald (D := D) hx hb hK hP 18 0 rfl rfl (And.left h) dX5_passes_40 ?_
          replace h := And.right h
          refine va_iast (D := D) hx hb hK hP hD hS 13 0 rfl rfl (And.left h) dX5_passes_41 (fun H locs hP hD hS => ?_)
          replace h := And.right h
          obtain ⟨S_41, eS_41⟩ : ∃ z : zT, z = (va_up S 12 (upd (S 12) x2.toNatClampNeg (S 22 (S 25 0).toNatClampNeg))) := ⟨_, rfl⟩
          replace h := h S_41 eS_41
          replace hP : va_P D zCl (bX5 ah cy S_41) H := by rw [eS_41]; exact hP
          replace hD : va_D A (bX5 ah cy S_41) := by rw [eS_41]; exact hD
          exact L42 x2 S_41 h H locs hP hD hS ls (lv_sub hl [0, 1, 2] rfl)
        · replace h := And.right h c12
          refine lv_aload_n hx hb dX5_passes_15 rfl (lv_at hl 0 rfl) ?_
          refine va_get (D := D) (ci := 5) (v := .ref (ah 22)) (C := RX5) (T := TX5) (N := 41) hx hb htB ziX5 hown hK hP 0 rfl rfl 22 (by decide) (htB _ zm_314) (fun _ h9 => h9) rfl dX5_passes_16 ?_
          refine lv_aload_n hx hb dX5_passes_19 rfl (lv_at hl 0 rfl) ?_
          refine va_get (D := D) (ci := 5) (v := .int (S 25 0)) (C := RX5) (T := TX5) (N := 41) hx hb htB ziX5 hown hK hP 0 rfl rfl 25 (by decide) (htB _ zm_312) (fun _ h9 => h9) rfl dX5_passes_20 ?_
          refine lv_aload_n hx hb dX5_passes_23 rfl (lv_at hl 1 rfl) ?_
          refine lv_iload_n hx hb dX5_passes_24 rfl (lv_at hl 2 rfl) ?_
          refine va_iald (D := D) hx hb hK hP 13 0 rfl rfl (And.left h) dX5_passes_25 ?_
          replace h := And.right h
          refine va_iast (D := D) hx hb hK hP hD hS 18 0 rfl rfl (And.left h) dX5_passes_26 (fun H locs hP hD hS => ?_)
          replace h := And.right h
          obtain ⟨S_26, eS_26⟩ : ∃ z : zT, z = (va_up S 22 (upd (S 22) (S 25 0).toNatClampNeg (S 12 x2.toNatClampNeg))) := ⟨_, rfl⟩
          replace h := h S_26 eS_26
          replace hP : va_P D zCl (bX5 ah cy S_26) H := by rw [eS_26]; exact hP
          replace hD : va_D A (bX5 ah cy S_26) := by rw [eS_26]; exact hD
          refine lv_goto (tgt := 42) hx hb dX5_passes_27 (by decide) ?_
          exact L42 x2 S_26 h H locs hP hD hS ls (lv_sub hl [0, 1, 2] rfl)
  refine lv_iconst (v := (0 : Int32)) hx hb dX5_passes_0 (by decide) ?_
  refine lv_istore_n (lv' := [(2, .int (0 : Int32)), (0, .ref (ah 99)), (1, .ref (ah 12))]) hx hb dX5_passes_1 rfl hl (by decide) rfl (fun ls hl => ?_)
  obtain ⟨nn, h⟩ := h
  exact L2 nn (0 : Int32) S h H locs hP hD hS ls (lv_sub hl [1, 2, 0] rfl)
set_option maxHeartbeats 4000000 in
set_option maxRecDepth 100000 in
theorem c_X5_passOne (l : Launch) (D : va_G) (cy : ClassId) (ah : Nat → Nat) (sz : Nat) (i1 : Int32) (S : zT) {Q : Int32 → zT → Prop} (h : wp_X5_passOne i1 S Q) : Met l yX5_passOne w_X5_passOne rm_X5_passOne (va_Pc [.ref (ah 99), .int i1] (zM D cy (bX5 ah cy S) sz)) (va_Qi (S := zT) (fun (r : Int32) (u : zT) => Q r u) (fun u t => va_P D zCl ((fun (u : zT) => (bX5 ah cy u)) u) t.heap) (va_A (bX5 ah cy S) sz)) 0 0 (va_A (bX5 ah cy S) sz) := by
  refine zOf_i (by decide) (Nat.le_of_ble_eq_true rfl) ?_
  intro p e s m below meth c ls A H locs hx hb hr hml hown htB hlocks hK hN hP hD hS hA hl
  replace hl : lv_has ls 3 [(0, .ref (ah 99)), (1, .int i1)] := hl
  have L38 : ∀ (x2 : Int32) (S : zT), wpb_X5_passOne_38 i1 Q x2 S → ∀ (H : Heap) (locs : List Loc), va_P D zCl (bX5 ah cy S) H → va_D A (bX5 ah cy S) → va_S A s.heap H locs → ∀ ls : Array Slot, lv_has ls 3 [(0, .ref (ah 99)), (2, .int x2)] → W p l e rm_X5_passOne s m ([.ref (ah 99), .int i1] : List Value).toArray below meth c H locs 0 0 (MQ below (va_Qi (S := zT) (fun (r : Int32) (u : zT) => Q r u) (fun u t => va_P D zCl ((fun (u : zT) => (bX5 ah cy u)) u) t.heap) A) ([.ref (ah 99), .int i1] : List Value).toArray s 0 0 A) (F0 m 38 ls []) := by
    intro x2 S h H locs hP hD hS ls hl
    refine lv_aload_n hx hb dX5_passOne_38 rfl (lv_at hl 0 rfl) ?_
    refine lv_dup hx hb dX5_passOne_39 rfl ?_
    refine va_get (D := D) (ci := 5) (v := .int (S 25 0)) (C := RX5) (T := TX5) (N := 41) hx hb htB ziX5 hown hK hP 0 rfl rfl 25 (by decide) (htB _ zm_312) (fun _ h9 => h9) rfl dX5_passOne_40 ?_
    refine lv_iconst (v := (1 : Int32)) hx hb dX5_passOne_43 (by decide) ?_
    refine lv_iadd hx hb dX5_passOne_44 ?_
    refine va_put (D := D) (ci := 5) (v := .int ((S 25 0) + (1 : Int32))) (ty := .int) (C := RX5) (T := TX5) (N := 41) hx hb htB ziX5 tyX5 tyX5_ok nmX5 hown hK hP hD hS 0 rfl rfl 25 (by decide) (htB _ zm_312) (fun _ h9 => h9) rfl (tyX5_ok 25 (by decide)) rfl rfl (Nat.le_of_ble_eq_true rfl) dX5_passOne_45 (fun H locs hP hD hS => ?_)
    obtain ⟨S_45, eS_45⟩ : ∃ z : zT, z = (va_up S 25 (fun _ => ((S 25 0) + (1 : Int32)))) := ⟨_, rfl⟩
    replace h := h S_45 eS_45
    replace hP : va_P D zCl (bX5 ah cy S_45) H := by rw [eS_45]; exact hP
    replace hD : va_D A (bX5 ah cy S_45) := by rw [eS_45]; exact hD
    refine lv_iload_n hx hb dX5_passOne_48 rfl (lv_at hl 1 rfl) ?_
    exact W.iret (v := x2) hx hb hr (fun t ht hW => ⟨⟨_, S_45, rfl, h, zP_h ht hP⟩, hS.F ht⟩) hS.2.2 dX5_passOne_49
  have L20 : ∀ (t0 : Int32) (S : zT), wpb_X5_passOne_20 i1 Q t0 S → ∀ (H : Heap) (locs : List Loc), va_P D zCl (bX5 ah cy S) H → va_D A (bX5 ah cy S) → va_S A s.heap H locs → ∀ ls : Array Slot, lv_has ls 3 [(0, .ref (ah 99)), (1, .int i1)] → W p l e rm_X5_passOne s m ([.ref (ah 99), .int i1] : List Value).toArray below meth c H locs 0 0 (MQ below (va_Qi (S := zT) (fun (r : Int32) (u : zT) => Q r u) (fun u t => va_P D zCl ((fun (u : zT) => (bX5 ah cy u)) u) t.heap) A) ([.ref (ah 99), .int i1] : List Value).toArray s 0 0 A) (F0 m 20 ls [.int t0]) := by
    intro t0 S h H locs hP hD hS ls hl
    refine lv_istore_n (lv' := [(2, .int t0), (0, .ref (ah 99)), (1, .int i1)]) hx hb dX5_passOne_20 rfl hl (by decide) rfl (fun ls hl => ?_)
    refine lv_aload_n hx hb dX5_passOne_21 rfl (lv_at hl 1 rfl) ?_
    refine va_get (D := D) (ci := 5) (v := .int (S 24 0)) (C := RX5) (T := TX5) (N := 41) hx hb htB ziX5 hown hK hP 0 rfl rfl 24 (by decide) (htB _ zm_313) (fun _ h9 => h9) rfl dX5_passOne_22 ?_
    refine lv_if_eq (tgt := 38) hx hb dX5_passOne_25 (by decide) (fun c25 => ?_) (fun c25 => ?_)
    · replace h := And.left h c25
      exact L38 t0 S h H locs hP hD hS ls (lv_sub hl [1, 0] rfl)
    · replace h := And.right h c25
      refine lv_aload_n hx hb dX5_passOne_28 rfl (lv_at hl 1 rfl) ?_
      refine va_get (D := D) (ci := 5) (v := .ref (ah 22)) (C := RX5) (T := TX5) (N := 41) hx hb htB ziX5 hown hK hP 0 rfl rfl 22 (by decide) (htB _ zm_314) (fun _ h9 => h9) rfl dX5_passOne_29 ?_
      refine lv_aload_n hx hb dX5_passOne_32 rfl (lv_at hl 1 rfl) ?_
      refine va_get (D := D) (ci := 5) (v := .int (S 25 0)) (C := RX5) (T := TX5) (N := 41) hx hb htB ziX5 hown hK hP 0 rfl rfl 25 (by decide) (htB _ zm_312) (fun _ h9 => h9) rfl dX5_passOne_33 ?_
      refine lv_iload_n hx hb dX5_passOne_36 rfl (lv_at hl 2 rfl) ?_
      refine va_iast (D := D) hx hb hK hP hD hS 18 0 rfl rfl (And.left h) dX5_passOne_37 (fun H locs hP hD hS => ?_)
      replace h := And.right h
      obtain ⟨S_37, eS_37⟩ : ∃ z : zT, z = (va_up S 22 (upd (S 22) (S 25 0).toNatClampNeg i1)) := ⟨_, rfl⟩
      replace h := h S_37 eS_37
      replace hP : va_P D zCl (bX5 ah cy S_37) H := by rw [eS_37]; exact hP
      replace hD : va_D A (bX5 ah cy S_37) := by rw [eS_37]; exact hD
      exact L38 t0 S_37 h H locs hP hD hS ls (lv_sub hl [1, 0] rfl)
  refine lv_aload_n hx hb dX5_passOne_0 rfl (lv_at hl 0 rfl) ?_
  refine va_get (D := D) (ci := 5) (v := .int (S 24 0)) (C := RX5) (T := TX5) (N := 41) hx hb htB ziX5 hown hK hP 0 rfl rfl 24 (by decide) (htB _ zm_313) (fun _ h9 => h9) rfl dX5_passOne_1 ?_
  refine lv_if_eq (tgt := 11) hx hb dX5_passOne_4 (by decide) (fun c4 => ?_) (fun c4 => ?_)
  · replace h := And.left h c4
    refine lv_aload_n hx hb dX5_passOne_11 rfl (lv_at hl 0 rfl) ?_
    refine va_get (D := D) (ci := 5) (v := .ref (ah 22)) (C := RX5) (T := TX5) (N := 41) hx hb htB ziX5 hown hK hP 0 rfl rfl 22 (by decide) (htB _ zm_314) (fun _ h9 => h9) rfl dX5_passOne_12 ?_
    refine lv_aload_n hx hb dX5_passOne_15 rfl (lv_at hl 0 rfl) ?_
    refine va_get (D := D) (ci := 5) (v := .int (S 25 0)) (C := RX5) (T := TX5) (N := 41) hx hb htB ziX5 hown hK hP 0 rfl rfl 25 (by decide) (htB _ zm_312) (fun _ h9 => h9) rfl dX5_passOne_16 ?_
    refine va_iald (D := D) hx hb hK hP 18 0 rfl rfl (And.left h) dX5_passOne_19 ?_
    replace h := And.right h
    exact L20 (S 22 (S 25 0).toNatClampNeg) S h H locs hP hD hS ls (lv_sub hl [0, 1] rfl)
  · replace h := And.right h c4
    refine lv_iload_n hx hb dX5_passOne_7 rfl (lv_at hl 1 rfl) ?_
    refine lv_goto (tgt := 20) hx hb dX5_passOne_8 (by decide) ?_
    exact L20 i1 S h H locs hP hD hS ls (lv_sub hl [0, 1] rfl)
set_option maxHeartbeats 4000000 in
set_option maxRecDepth 100000 in
theorem c_X5_passesAll (l : Launch) (D : va_G) (cy : ClassId) (ah : Nat → Nat) (sz : Nat) (i1 : Int32) (i2 : Int32) (S : zT) {Q : zT → Prop} (h : wp_X5_passesAll i1 i2 S Q) : Met l yX5_passesAll w_X5_passesAll rm_X5_passesAll (va_Pc [.ref (ah 99), .int i1, .int i2] (zM D cy (bX5 ah cy S) sz)) (va_Qv (S := zT) (fun (u : zT) => Q u) (fun u t => va_P D zCl ((fun (u : zT) => (bX5 ah cy u)) u) t.heap) (va_A (bX5 ah cy S) sz)) 0 0 (va_A (bX5 ah cy S) sz) := by
  refine zOf_v (by decide) (Nat.le_of_ble_eq_true rfl) ?_
  intro p e s m below meth c ls A H locs hx hb hr hml hown htB hlocks hK hN hP hD hS hA hl
  replace hl : lv_has ls 3 [(0, .ref (ah 99)), (1, .int i1), (2, .int i2)] := hl
  refine lv_aload_n hx hb dX5_passesAll_0 rfl (lv_at hl 0 rfl) ?_
  refine lv_bipush (v := (110 : Int32)) hx hb dX5_passesAll_1 (by decide) ?_
  refine lv_iload_n hx hb dX5_passesAll_3 rfl (lv_at hl 1 rfl) ?_
  refine lv_imul hx hb dX5_passesAll_4 ?_
  refine va_put (D := D) (ci := 5) (v := .int ((110 : Int32) * i1)) (ty := .int) (C := RX5) (T := TX5) (N := 41) hx hb htB ziX5 tyX5 tyX5_ok nmX5 hown hK hP hD hS 0 rfl rfl 25 (by decide) (htB _ zm_312) (fun _ h9 => h9) rfl (tyX5_ok 25 (by decide)) rfl rfl (Nat.le_of_ble_eq_true rfl) dX5_passesAll_5 (fun H locs hP hD hS => ?_)
  obtain ⟨S_5, eS_5⟩ : ∃ z : zT, z = (va_up S 25 (fun _ => ((110 : Int32) * i1))) := ⟨_, rfl⟩
  replace h := h S_5 eS_5
  replace hP : va_P D zCl (bX5 ah cy S_5) H := by rw [eS_5]; exact hP
  replace hD : va_D A (bX5 ah cy S_5) := by rw [eS_5]; exact hD
  refine lv_aload_n hx hb dX5_passesAll_8 rfl (lv_at hl 0 rfl) ?_
  refine lv_iload_n hx hb dX5_passesAll_9 rfl (lv_at hl 2 rfl) ?_
  have hz := And.left h
  replace h := And.right h
  refine va_put (D := D) (ci := 5) (v := .int i2) (ty := .boolean) (C := RX5) (T := TX5) (N := 41) hx hb htB ziX5 tyX5 tyX5_ok nmX5 hown hK hP hD hS 0 rfl rfl 24 (by decide) (htB _ zm_313) (fun _ h9 => h9) rfl (tyX5_ok 24 (by decide)) hz.1 hz.2 (Nat.le_of_ble_eq_true rfl) dX5_passesAll_10 (fun H locs hP hD hS => ?_)
  obtain ⟨S_10, eS_10⟩ : ∃ z : zT, z = (va_up S_5 24 (fun _ => i2)) := ⟨_, rfl⟩
  replace h := h S_10 eS_10
  replace hP : va_P D zCl (bX5 ah cy S_10) H := by rw [eS_10]; exact hP
  replace hD : va_D A (bX5 ah cy S_10) := by rw [eS_10]; exact hD
  refine lv_aload_n hx hb dX5_passesAll_13 rfl (lv_at hl 0 rfl) ?_
  refine lv_aload_n hx hb dX5_passesAll_14 rfl (lv_at hl 0 rfl) ?_
  refine va_get (D := D) (ci := 5) (v := .ref (ah 1)) (C := RX5) (T := TX5) (N := 41) hx hb htB ziX5 hown hK hP 0 rfl rfl 1 (by decide) (htB _ zm_300) (fun _ h9 => h9) rfl dX5_passesAll_15 ?_
  refine zc_vf (ws' := fun u => (bX5 ah cy u)) (va_runV (As := [.ref (ah 1)]) (rest := []) ⟨hx, hb, hml, hown, htB⟩ (c_X5_passes_k1 l D cy ah H.size S_10 h) (cwV 1 htB (zgV zm_315 zm_317 zm_318 zm_263 zm_316) rfl rfl rfl hd_X5_passes ⟨Nat.le_of_ble_eq_true rfl, Nat.le_of_ble_eq_true rfl⟩) ⟨zM_blind, va_recv hK hP (ci := 5) (q0 := 0) rfl rfl, zM_pre hP hK hN hD⟩ rfl rfl hl.1 rfl (lv_room (Nat.le_of_ble_eq_true rfl)) dX5_passesAll_18 ⟨Nat.zero_le _, Nat.zero_le _⟩) hS hA hP hD (fun u => rfl) (fun u => rfl) (fun u H locs h hP hD hS => ?_)
  obtain ⟨S_18, eu⟩ : ∃ z, z = u := ⟨_, rfl⟩
  subst eu
  replace hP : va_P D zCl (bX5 ah cy S_18) H := hP
  replace hD : va_D A (bX5 ah cy S_18) := hD
  refine lv_aload_n hx hb dX5_passesAll_21 rfl (lv_at hl 0 rfl) ?_
  refine lv_aload_n hx hb dX5_passesAll_22 rfl (lv_at hl 0 rfl) ?_
  refine va_get (D := D) (ci := 5) (v := .ref (ah 2)) (C := RX5) (T := TX5) (N := 41) hx hb htB ziX5 hown hK hP 0 rfl rfl 2 (by decide) (htB _ zm_301) (fun _ h9 => h9) rfl dX5_passesAll_23 ?_
  refine zc_vf (ws' := fun u => (bX5 ah cy u)) (va_runV (As := [.ref (ah 2)]) (rest := []) ⟨hx, hb, hml, hown, htB⟩ (c_X5_passes_k2 l D cy ah H.size S_18 h) (cwV 1 htB (zgV zm_315 zm_317 zm_318 zm_263 zm_316) rfl rfl rfl hd_X5_passes ⟨Nat.le_of_ble_eq_true rfl, Nat.le_of_ble_eq_true rfl⟩) ⟨zM_blind, va_recv hK hP (ci := 5) (q0 := 0) rfl rfl, zM_pre hP hK hN hD⟩ rfl rfl hl.1 rfl (lv_room (Nat.le_of_ble_eq_true rfl)) dX5_passesAll_26 ⟨Nat.zero_le _, Nat.zero_le _⟩) hS hA hP hD (fun u => rfl) (fun u => rfl) (fun u H locs h hP hD hS => ?_)
  obtain ⟨S_26, eu⟩ : ∃ z, z = u := ⟨_, rfl⟩
  subst eu
  replace hP : va_P D zCl (bX5 ah cy S_26) H := hP
  replace hD : va_D A (bX5 ah cy S_26) := hD
  refine lv_aload_n hx hb dX5_passesAll_29 rfl (lv_at hl 0 rfl) ?_
  refine lv_aload_n hx hb dX5_passesAll_30 rfl (lv_at hl 0 rfl) ?_
  refine va_get (D := D) (ci := 5) (v := .ref (ah 3)) (C := RX5) (T := TX5) (N := 41) hx hb htB ziX5 hown hK hP 0 rfl rfl 3 (by decide) (htB _ zm_302) (fun _ h9 => h9) rfl dX5_passesAll_31 ?_
  refine zc_vf (ws' := fun u => (bX5 ah cy u)) (va_runV (As := [.ref (ah 3)]) (rest := []) ⟨hx, hb, hml, hown, htB⟩ (c_X5_passes_k3 l D cy ah H.size S_26 h) (cwV 1 htB (zgV zm_315 zm_317 zm_318 zm_263 zm_316) rfl rfl rfl hd_X5_passes ⟨Nat.le_of_ble_eq_true rfl, Nat.le_of_ble_eq_true rfl⟩) ⟨zM_blind, va_recv hK hP (ci := 5) (q0 := 0) rfl rfl, zM_pre hP hK hN hD⟩ rfl rfl hl.1 rfl (lv_room (Nat.le_of_ble_eq_true rfl)) dX5_passesAll_34 ⟨Nat.zero_le _, Nat.zero_le _⟩) hS hA hP hD (fun u => rfl) (fun u => rfl) (fun u H locs h hP hD hS => ?_)
  obtain ⟨S_34, eu⟩ : ∃ z, z = u := ⟨_, rfl⟩
  subst eu
  replace hP : va_P D zCl (bX5 ah cy S_34) H := hP
  replace hD : va_D A (bX5 ah cy S_34) := hD
  refine lv_aload_n hx hb dX5_passesAll_37 rfl (lv_at hl 0 rfl) ?_
  refine lv_aload_n hx hb dX5_passesAll_38 rfl (lv_at hl 0 rfl) ?_
  refine va_get (D := D) (ci := 5) (v := .ref (ah 4)) (C := RX5) (T := TX5) (N := 41) hx hb htB ziX5 hown hK hP 0 rfl rfl 4 (by decide) (htB _ zm_303) (fun _ h9 => h9) rfl dX5_passesAll_39 ?_
  refine zc_vf (ws' := fun u => (bX5 ah cy u)) (va_runV (As := [.ref (ah 4)]) (rest := []) ⟨hx, hb, hml, hown, htB⟩ (c_X5_passes_k4 l D cy ah H.size S_34 h) (cwV 1 htB (zgV zm_315 zm_317 zm_318 zm_263 zm_316) rfl rfl rfl hd_X5_passes ⟨Nat.le_of_ble_eq_true rfl, Nat.le_of_ble_eq_true rfl⟩) ⟨zM_blind, va_recv hK hP (ci := 5) (q0 := 0) rfl rfl, zM_pre hP hK hN hD⟩ rfl rfl hl.1 rfl (lv_room (Nat.le_of_ble_eq_true rfl)) dX5_passesAll_42 ⟨Nat.zero_le _, Nat.zero_le _⟩) hS hA hP hD (fun u => rfl) (fun u => rfl) (fun u H locs h hP hD hS => ?_)
  obtain ⟨S_42, eu⟩ : ∃ z, z = u := ⟨_, rfl⟩
  subst eu
  replace hP : va_P D zCl (bX5 ah cy S_42) H := hP
  replace hD : va_D A (bX5 ah cy S_42) := hD
  refine lv_aload_n hx hb dX5_passesAll_45 rfl (lv_at hl 0 rfl) ?_
  refine lv_aload_n hx hb dX5_passesAll_46 rfl (lv_at hl 0 rfl) ?_
  refine va_get (D := D) (ci := 5) (v := .ref (ah 5)) (C := RX5) (T := TX5) (N := 41) hx hb htB ziX5 hown hK hP 0 rfl rfl 5 (by decide) (htB _ zm_304) (fun _ h9 => h9) rfl dX5_passesAll_47 ?_
  refine zc_vf (ws' := fun u => (bX5 ah cy u)) (va_runV (As := [.ref (ah 5)]) (rest := []) ⟨hx, hb, hml, hown, htB⟩ (c_X5_passes_k5 l D cy ah H.size S_42 h) (cwV 1 htB (zgV zm_315 zm_317 zm_318 zm_263 zm_316) rfl rfl rfl hd_X5_passes ⟨Nat.le_of_ble_eq_true rfl, Nat.le_of_ble_eq_true rfl⟩) ⟨zM_blind, va_recv hK hP (ci := 5) (q0 := 0) rfl rfl, zM_pre hP hK hN hD⟩ rfl rfl hl.1 rfl (lv_room (Nat.le_of_ble_eq_true rfl)) dX5_passesAll_50 ⟨Nat.zero_le _, Nat.zero_le _⟩) hS hA hP hD (fun u => rfl) (fun u => rfl) (fun u H locs h hP hD hS => ?_)
  obtain ⟨S_50, eu⟩ : ∃ z, z = u := ⟨_, rfl⟩
  subst eu
  replace hP : va_P D zCl (bX5 ah cy S_50) H := hP
  replace hD : va_D A (bX5 ah cy S_50) := hD
  refine lv_aload_n hx hb dX5_passesAll_53 rfl (lv_at hl 0 rfl) ?_
  refine lv_aload_n hx hb dX5_passesAll_54 rfl (lv_at hl 0 rfl) ?_
  refine va_get (D := D) (ci := 5) (v := .ref (ah 6)) (C := RX5) (T := TX5) (N := 41) hx hb htB ziX5 hown hK hP 0 rfl rfl 6 (by decide) (htB _ zm_305) (fun _ h9 => h9) rfl dX5_passesAll_55 ?_
  refine zc_vf (ws' := fun u => (bX5 ah cy u)) (va_runV (As := [.ref (ah 6)]) (rest := []) ⟨hx, hb, hml, hown, htB⟩ (c_X5_passes_k6 l D cy ah H.size S_50 h) (cwV 1 htB (zgV zm_315 zm_317 zm_318 zm_263 zm_316) rfl rfl rfl hd_X5_passes ⟨Nat.le_of_ble_eq_true rfl, Nat.le_of_ble_eq_true rfl⟩) ⟨zM_blind, va_recv hK hP (ci := 5) (q0 := 0) rfl rfl, zM_pre hP hK hN hD⟩ rfl rfl hl.1 rfl (lv_room (Nat.le_of_ble_eq_true rfl)) dX5_passesAll_58 ⟨Nat.zero_le _, Nat.zero_le _⟩) hS hA hP hD (fun u => rfl) (fun u => rfl) (fun u H locs h hP hD hS => ?_)
  obtain ⟨S_58, eu⟩ : ∃ z, z = u := ⟨_, rfl⟩
  subst eu
  replace hP : va_P D zCl (bX5 ah cy S_58) H := hP
  replace hD : va_D A (bX5 ah cy S_58) := hD
  refine lv_aload_n hx hb dX5_passesAll_61 rfl (lv_at hl 0 rfl) ?_
  refine lv_aload_n hx hb dX5_passesAll_62 rfl (lv_at hl 0 rfl) ?_
  refine va_get (D := D) (ci := 5) (v := .ref (ah 7)) (C := RX5) (T := TX5) (N := 41) hx hb htB ziX5 hown hK hP 0 rfl rfl 7 (by decide) (htB _ zm_306) (fun _ h9 => h9) rfl dX5_passesAll_63 ?_
  refine zc_vf (ws' := fun u => (bX5 ah cy u)) (va_runV (As := [.ref (ah 7)]) (rest := []) ⟨hx, hb, hml, hown, htB⟩ (c_X5_passes_k7 l D cy ah H.size S_58 h) (cwV 1 htB (zgV zm_315 zm_317 zm_318 zm_263 zm_316) rfl rfl rfl hd_X5_passes ⟨Nat.le_of_ble_eq_true rfl, Nat.le_of_ble_eq_true rfl⟩) ⟨zM_blind, va_recv hK hP (ci := 5) (q0 := 0) rfl rfl, zM_pre hP hK hN hD⟩ rfl rfl hl.1 rfl (lv_room (Nat.le_of_ble_eq_true rfl)) dX5_passesAll_66 ⟨Nat.zero_le _, Nat.zero_le _⟩) hS hA hP hD (fun u => rfl) (fun u => rfl) (fun u H locs h hP hD hS => ?_)
  obtain ⟨S_66, eu⟩ : ∃ z, z = u := ⟨_, rfl⟩
  subst eu
  replace hP : va_P D zCl (bX5 ah cy S_66) H := hP
  replace hD : va_D A (bX5 ah cy S_66) := hD
  refine lv_aload_n hx hb dX5_passesAll_69 rfl (lv_at hl 0 rfl) ?_
  refine lv_aload_n hx hb dX5_passesAll_70 rfl (lv_at hl 0 rfl) ?_
  refine va_get (D := D) (ci := 5) (v := .ref (ah 8)) (C := RX5) (T := TX5) (N := 41) hx hb htB ziX5 hown hK hP 0 rfl rfl 8 (by decide) (htB _ zm_307) (fun _ h9 => h9) rfl dX5_passesAll_71 ?_
  refine zc_vf (ws' := fun u => (bX5 ah cy u)) (va_runV (As := [.ref (ah 8)]) (rest := []) ⟨hx, hb, hml, hown, htB⟩ (c_X5_passes_k8 l D cy ah H.size S_66 h) (cwV 1 htB (zgV zm_315 zm_317 zm_318 zm_263 zm_316) rfl rfl rfl hd_X5_passes ⟨Nat.le_of_ble_eq_true rfl, Nat.le_of_ble_eq_true rfl⟩) ⟨zM_blind, va_recv hK hP (ci := 5) (q0 := 0) rfl rfl, zM_pre hP hK hN hD⟩ rfl rfl hl.1 rfl (lv_room (Nat.le_of_ble_eq_true rfl)) dX5_passesAll_74 ⟨Nat.zero_le _, Nat.zero_le _⟩) hS hA hP hD (fun u => rfl) (fun u => rfl) (fun u H locs h hP hD hS => ?_)
  obtain ⟨S_74, eu⟩ : ∃ z, z = u := ⟨_, rfl⟩
  subst eu
  replace hP : va_P D zCl (bX5 ah cy S_74) H := hP
  replace hD : va_D A (bX5 ah cy S_74) := hD
  refine lv_aload_n hx hb dX5_passesAll_77 rfl (lv_at hl 0 rfl) ?_
  refine lv_aload_n hx hb dX5_passesAll_78 rfl (lv_at hl 0 rfl) ?_
  refine va_get (D := D) (ci := 5) (v := .ref (ah 9)) (C := RX5) (T := TX5) (N := 41) hx hb htB ziX5 hown hK hP 0 rfl rfl 9 (by decide) (htB _ zm_319) (fun _ h9 => h9) rfl dX5_passesAll_79 ?_
  refine zc_vf (ws' := fun u => (bX5 ah cy u)) (va_runV (As := [.ref (ah 9)]) (rest := []) ⟨hx, hb, hml, hown, htB⟩ (c_X5_passes_k9 l D cy ah H.size S_74 h) (cwV 1 htB (zgV zm_315 zm_317 zm_318 zm_263 zm_316) rfl rfl rfl hd_X5_passes ⟨Nat.le_of_ble_eq_true rfl, Nat.le_of_ble_eq_true rfl⟩) ⟨zM_blind, va_recv hK hP (ci := 5) (q0 := 0) rfl rfl, zM_pre hP hK hN hD⟩ rfl rfl hl.1 rfl (lv_room (Nat.le_of_ble_eq_true rfl)) dX5_passesAll_82 ⟨Nat.zero_le _, Nat.zero_le _⟩) hS hA hP hD (fun u => rfl) (fun u => rfl) (fun u H locs h hP hD hS => ?_)
  obtain ⟨S_82, eu⟩ : ∃ z, z = u := ⟨_, rfl⟩
  subst eu
  replace hP : va_P D zCl (bX5 ah cy S_82) H := hP
  replace hD : va_D A (bX5 ah cy S_82) := hD
  refine lv_aload_n hx hb dX5_passesAll_85 rfl (lv_at hl 0 rfl) ?_
  refine lv_aload_n hx hb dX5_passesAll_86 rfl (lv_at hl 0 rfl) ?_
  refine va_get (D := D) (ci := 5) (v := .ref (ah 10)) (C := RX5) (T := TX5) (N := 41) hx hb htB ziX5 hown hK hP 0 rfl rfl 10 (by decide) (htB _ zm_320) (fun _ h9 => h9) rfl dX5_passesAll_87 ?_
  refine zc_vf (ws' := fun u => (bX5 ah cy u)) (va_runV (As := [.ref (ah 10)]) (rest := []) ⟨hx, hb, hml, hown, htB⟩ (c_X5_passes_k10 l D cy ah H.size S_82 h) (cwV 1 htB (zgV zm_315 zm_317 zm_318 zm_263 zm_316) rfl rfl rfl hd_X5_passes ⟨Nat.le_of_ble_eq_true rfl, Nat.le_of_ble_eq_true rfl⟩) ⟨zM_blind, va_recv hK hP (ci := 5) (q0 := 0) rfl rfl, zM_pre hP hK hN hD⟩ rfl rfl hl.1 rfl (lv_room (Nat.le_of_ble_eq_true rfl)) dX5_passesAll_90 ⟨Nat.zero_le _, Nat.zero_le _⟩) hS hA hP hD (fun u => rfl) (fun u => rfl) (fun u H locs h hP hD hS => ?_)
  obtain ⟨S_90, eu⟩ : ∃ z, z = u := ⟨_, rfl⟩
  subst eu
  replace hP : va_P D zCl (bX5 ah cy S_90) H := hP
  replace hD : va_D A (bX5 ah cy S_90) := hD
  refine lv_aload_n hx hb dX5_passesAll_93 rfl (lv_at hl 0 rfl) ?_
  refine lv_aload_n hx hb dX5_passesAll_94 rfl (lv_at hl 0 rfl) ?_
  refine va_get (D := D) (ci := 5) (v := .ref (ah 11)) (C := RX5) (T := TX5) (N := 41) hx hb htB ziX5 hown hK hP 0 rfl rfl 11 (by decide) (htB _ zm_321) (fun _ h9 => h9) rfl dX5_passesAll_95 ?_
  refine zc_vf (ws' := fun u => (bX5 ah cy u)) (va_runV (As := [.ref (ah 11)]) (rest := []) ⟨hx, hb, hml, hown, htB⟩ (c_X5_passes_k11 l D cy ah H.size S_90 h) (cwV 1 htB (zgV zm_315 zm_317 zm_318 zm_263 zm_316) rfl rfl rfl hd_X5_passes ⟨Nat.le_of_ble_eq_true rfl, Nat.le_of_ble_eq_true rfl⟩) ⟨zM_blind, va_recv hK hP (ci := 5) (q0 := 0) rfl rfl, zM_pre hP hK hN hD⟩ rfl rfl hl.1 rfl (lv_room (Nat.le_of_ble_eq_true rfl)) dX5_passesAll_98 ⟨Nat.zero_le _, Nat.zero_le _⟩) hS hA hP hD (fun u => rfl) (fun u => rfl) (fun u H locs h hP hD hS => ?_)
  obtain ⟨S_98, eu⟩ : ∃ z, z = u := ⟨_, rfl⟩
  subst eu
  replace hP : va_P D zCl (bX5 ah cy S_98) H := hP
  replace hD : va_D A (bX5 ah cy S_98) := hD
  refine lv_aload_n hx hb dX5_passesAll_101 rfl (lv_at hl 0 rfl) ?_
  refine lv_aload_n hx hb dX5_passesAll_102 rfl (lv_at hl 0 rfl) ?_
  refine va_get (D := D) (ci := 5) (v := .ref (ah 12)) (C := RX5) (T := TX5) (N := 41) hx hb htB ziX5 hown hK hP 0 rfl rfl 12 (by decide) (htB _ zm_322) (fun _ h9 => h9) rfl dX5_passesAll_103 ?_
  refine zc_vf (ws' := fun u => (bX5 ah cy u)) (va_runV (As := [.ref (ah 12)]) (rest := []) ⟨hx, hb, hml, hown, htB⟩ (c_X5_passes_k12 l D cy ah H.size S_98 h) (cwV 1 htB (zgV zm_315 zm_317 zm_318 zm_263 zm_316) rfl rfl rfl hd_X5_passes ⟨Nat.le_of_ble_eq_true rfl, Nat.le_of_ble_eq_true rfl⟩) ⟨zM_blind, va_recv hK hP (ci := 5) (q0 := 0) rfl rfl, zM_pre hP hK hN hD⟩ rfl rfl hl.1 rfl (lv_room (Nat.le_of_ble_eq_true rfl)) dX5_passesAll_106 ⟨Nat.zero_le _, Nat.zero_le _⟩) hS hA hP hD (fun u => rfl) (fun u => rfl) (fun u H locs h hP hD hS => ?_)
  obtain ⟨S_106, eu⟩ : ∃ z, z = u := ⟨_, rfl⟩
  subst eu
  replace hP : va_P D zCl (bX5 ah cy S_106) H := hP
  replace hD : va_D A (bX5 ah cy S_106) := hD
  refine lv_aload_n hx hb dX5_passesAll_109 rfl (lv_at hl 0 rfl) ?_
  refine lv_aload_n hx hb dX5_passesAll_110 rfl (lv_at hl 0 rfl) ?_
  refine lv_aload_n hx hb dX5_passesAll_111 rfl (lv_at hl 0 rfl) ?_
  refine va_get (D := D) (ci := 5) (v := .int (S_106 13 0)) (C := RX5) (T := TX5) (N := 41) hx hb htB ziX5 hown hK hP 0 rfl rfl 13 (by decide) (htB _ zm_258) (fun _ h9 => h9) rfl dX5_passesAll_112 ?_
  refine zc_if (ws' := fun u => (bX5 ah cy u)) (va_runV (As := [.int (S_106 13 0)]) (rest := [.ref (ah 99)]) ⟨hx, hb, hml, hown, htB⟩ (c_X5_passOne l D cy ah H.size (S_106 13 0) S_106 h) (cwV 1 htB (zgV zm_323 zm_325 zm_326 zm_263 zm_324) rfl rfl rfl hd_X5_passOne ⟨Nat.le_of_ble_eq_true rfl, Nat.le_of_ble_eq_true rfl⟩) ⟨zM_blind, va_recv hK hP (ci := 5) (q0 := 0) rfl rfl, zM_pre hP hK hN hD⟩ rfl rfl hl.1 rfl (lv_room (Nat.le_of_ble_eq_true rfl)) dX5_passesAll_115 ⟨Nat.zero_le _, Nat.zero_le _⟩) hS hA hP hD (fun u => rfl) (fun u => rfl) (fun r115 u H locs h hP hD hS => ?_)
  obtain ⟨S_115, eu⟩ : ∃ z, z = u := ⟨_, rfl⟩
  subst eu
  replace hP : va_P D zCl (bX5 ah cy S_115) H := hP
  replace hD : va_D A (bX5 ah cy S_115) := hD
  refine va_put (D := D) (ci := 5) (v := .int r115) (ty := .int) (C := RX5) (T := TX5) (N := 41) hx hb htB ziX5 tyX5 tyX5_ok nmX5 hown hK hP hD hS 0 rfl rfl 13 (by decide) (htB _ zm_258) (fun _ h9 => h9) rfl (tyX5_ok 13 (by decide)) rfl rfl (Nat.le_of_ble_eq_true rfl) dX5_passesAll_118 (fun H locs hP hD hS => ?_)
  obtain ⟨S_118, eS_118⟩ : ∃ z : zT, z = (va_up S_115 13 (fun _ => r115)) := ⟨_, rfl⟩
  replace h := h S_118 eS_118
  replace hP : va_P D zCl (bX5 ah cy S_118) H := by rw [eS_118]; exact hP
  replace hD : va_D A (bX5 ah cy S_118) := by rw [eS_118]; exact hD
  refine lv_aload_n hx hb dX5_passesAll_121 rfl (lv_at hl 0 rfl) ?_
  refine lv_aload_n hx hb dX5_passesAll_122 rfl (lv_at hl 0 rfl) ?_
  refine lv_aload_n hx hb dX5_passesAll_123 rfl (lv_at hl 0 rfl) ?_
  refine va_get (D := D) (ci := 5) (v := .int (S_118 14 0)) (C := RX5) (T := TX5) (N := 41) hx hb htB ziX5 hown hK hP 0 rfl rfl 14 (by decide) (htB _ zm_327) (fun _ h9 => h9) rfl dX5_passesAll_124 ?_
  refine zc_if (ws' := fun u => (bX5 ah cy u)) (va_runV (As := [.int (S_118 14 0)]) (rest := [.ref (ah 99)]) ⟨hx, hb, hml, hown, htB⟩ (c_X5_passOne l D cy ah H.size (S_118 14 0) S_118 h) (cwV 1 htB (zgV zm_323 zm_325 zm_326 zm_263 zm_324) rfl rfl rfl hd_X5_passOne ⟨Nat.le_of_ble_eq_true rfl, Nat.le_of_ble_eq_true rfl⟩) ⟨zM_blind, va_recv hK hP (ci := 5) (q0 := 0) rfl rfl, zM_pre hP hK hN hD⟩ rfl rfl hl.1 rfl (lv_room (Nat.le_of_ble_eq_true rfl)) dX5_passesAll_127 ⟨Nat.zero_le _, Nat.zero_le _⟩) hS hA hP hD (fun u => rfl) (fun u => rfl) (fun r127 u H locs h hP hD hS => ?_)
  obtain ⟨S_127, eu⟩ : ∃ z, z = u := ⟨_, rfl⟩
  subst eu
  replace hP : va_P D zCl (bX5 ah cy S_127) H := hP
  replace hD : va_D A (bX5 ah cy S_127) := hD
  refine va_put (D := D) (ci := 5) (v := .int r127) (ty := .int) (C := RX5) (T := TX5) (N := 41) hx hb htB ziX5 tyX5 tyX5_ok nmX5 hown hK hP hD hS 0 rfl rfl 14 (by decide) (htB _ zm_327) (fun _ h9 => h9) rfl (tyX5_ok 14 (by decide)) rfl rfl (Nat.le_of_ble_eq_true rfl) dX5_passesAll_130 (fun H locs hP hD hS => ?_)
  obtain ⟨S_130, eS_130⟩ : ∃ z : zT, z = (va_up S_127 14 (fun _ => r127)) := ⟨_, rfl⟩
  replace h := h S_130 eS_130
  replace hP : va_P D zCl (bX5 ah cy S_130) H := by rw [eS_130]; exact hP
  replace hD : va_D A (bX5 ah cy S_130) := by rw [eS_130]; exact hD
  exact W.vret hx hb hr (fun t ht hW => ⟨⟨S_130, rfl, h, zP_h ht hP⟩, hS.F ht⟩) hS.2.2 dX5_passesAll_133
set_option maxHeartbeats 4000000 in
set_option maxRecDepth 100000 in
theorem c_X5_way (l : Launch) (D : va_G) (cy : ClassId) (ah : Nat → Nat) (sz : Nat) (S : zT) {Q : Int32 → zT → Prop} (h : wp_X5_way S Q) : Met l yX5_way w_X5_way rm_X5_way (va_Pc [.ref (ah 99)] (zM D cy (bX5 ah cy S) sz)) (va_Qi (S := zT) (fun (r : Int32) (u : zT) => Q r u) (fun u t => va_P D zCl ((fun (u : zT) => (bX5 ah cy u)) u) t.heap) (va_A (bX5 ah cy S) sz)) 0 0 (va_A (bX5 ah cy S) sz) := by
  refine zOf_i (by decide) (Nat.le_of_ble_eq_true rfl) ?_
  intro p e s m below meth c ls A H locs hx hb hr hml hown htB hlocks hK hN hP hD hS hA hl
  replace hl : lv_has ls 3 [(0, .ref (ah 99))] := hl
  have L105 : ∀ (x2 : Int32) (S : zT), wpb_X5_way_105 Q x2 S → ∀ (H : Heap) (locs : List Loc), va_P D zCl (bX5 ah cy S) H → va_D A (bX5 ah cy S) → va_S A s.heap H locs → ∀ ls : Array Slot, lv_has ls 3 [(0, .ref (ah 99)), (2, .int x2)] → W p l e rm_X5_way s m ([.ref (ah 99)] : List Value).toArray below meth c H locs 0 0 (MQ below (va_Qi (S := zT) (fun (r : Int32) (u : zT) => Q r u) (fun u t => va_P D zCl ((fun (u : zT) => (bX5 ah cy u)) u) t.heap) A) ([.ref (ah 99)] : List Value).toArray s 0 0 A) (F0 m 105 ls []) := by
    intro x2 S h H locs hP hD hS ls hl
    refine lv_aload_n hx hb dX5_way_105 rfl (lv_at hl 0 rfl) ?_
    refine lv_iconst (v := (1 : Int32)) hx hb dX5_way_106 (by decide) ?_
    refine lv_iconst (v := (0 : Int32)) hx hb dX5_way_107 (by decide) ?_
    refine zc_vf (ws' := fun u => (bX5 ah cy u)) (va_runV (As := [.int (1 : Int32), .int (0 : Int32)]) (rest := []) ⟨hx, hb, hml, hown, htB⟩ (c_X5_passesAll l D cy ah H.size (1 : Int32) (0 : Int32) S h) (cwV 2 htB (zgV zm_328 zm_330 zm_331 zm_263 zm_329) rfl rfl rfl hd_X5_passesAll ⟨Nat.le_of_ble_eq_true rfl, Nat.le_of_ble_eq_true rfl⟩) ⟨zM_blind, va_recv hK hP (ci := 5) (q0 := 0) rfl rfl, zM_pre hP hK hN hD⟩ rfl rfl hl.1 rfl (lv_room (Nat.le_of_ble_eq_true rfl)) dX5_way_108 ⟨Nat.zero_le _, Nat.zero_le _⟩) hS hA hP hD (fun u => rfl) (fun u => rfl) (fun u H locs h hP hD hS => ?_)
    obtain ⟨S_108, eu⟩ : ∃ z, z = u := ⟨_, rfl⟩
    subst eu
    replace hP : va_P D zCl (bX5 ah cy S_108) H := hP
    replace hD : va_D A (bX5 ah cy S_108) := hD
    refine lv_sipush (v := (-2000 : Int32)) hx hb dX5_way_111 (by decide) ?_
    refine lv_aload_n hx hb dX5_way_114 rfl (lv_at hl 0 rfl) ?_
    refine va_get (D := D) (ci := 5) (v := .ref (ah 17)) (C := RX5) (T := TX5) (N := 41) hx hb htB ziX5 hown hK hP 0 rfl rfl 17 (by decide) (htB _ zm_295) (fun _ h9 => h9) rfl dX5_way_115 ?_
    refine lv_iload_n hx hb dX5_way_118 rfl (lv_at hl 1 rfl) ?_
    refine va_iald (D := D) hx hb hK hP 16 0 rfl rfl (And.left h) dX5_way_119 ?_
    replace h := And.right h
    refine lv_isub hx hb dX5_way_120 ?_
    exact W.iret (v := ((-2000 : Int32) - (S_108 17 x2.toNatClampNeg))) hx hb hr (fun t ht hW => ⟨⟨_, S_108, rfl, h, zP_h ht hP⟩, hS.F ht⟩) hS.2.2 dX5_way_121
  have L86 : ∀ (k86 : Nat) (x2 : Int32) (S : zT), wpl_X5_way_86 Q k86 x2 S → ∀ (H : Heap) (locs : List Loc), va_P D zCl (bX5 ah cy S) H → va_D A (bX5 ah cy S) → va_S A s.heap H locs → ∀ ls : Array Slot, lv_has ls 3 [(0, .ref (ah 99)), (2, .int x2)] → W p l e rm_X5_way s m ([.ref (ah 99)] : List Value).toArray below meth c H locs 0 0 (MQ below (va_Qi (S := zT) (fun (r : Int32) (u : zT) => Q r u) (fun u t => va_P D zCl ((fun (u : zT) => (bX5 ah cy u)) u) t.heap) A) ([.ref (ah 99)] : List Value).toArray s 0 0 A) (F0 m 86 ls []) := by
    intro k86
    induction k86 with
    | zero => exact fun x2 S h => False.elim h
    | succ k86 ih86 =>
      intro x2 S h H locs hP hD hS ls hl
      refine lv_iload_n hx hb dX5_way_86 rfl (lv_at hl 1 rfl) ?_
      refine lv_aload_n hx hb dX5_way_87 rfl (lv_at hl 0 rfl) ?_
      refine va_get (D := D) (ci := 5) (v := .int (S 21 0)) (C := RX5) (T := TX5) (N := 41) hx hb htB ziX5 hown hK hP 0 rfl rfl 21 (by decide) (htB _ zm_294) (fun _ h9 => h9) rfl dX5_way_88 ?_
      refine lv_icmp_ge (tgt := 128) hx hb dX5_way_91 (by decide) (fun c91 => ?_) (fun c91 => ?_)
      · replace h := And.left h c91
        refine lv_aload_n hx hb dX5_way_128 rfl (lv_at hl 0 rfl) ?_
        refine va_get (D := D) (ci := 5) (v := .int (S 21 0)) (C := RX5) (T := TX5) (N := 41) hx hb htB ziX5 hown hK hP 0 rfl rfl 21 (by decide) (htB _ zm_294) (fun _ h9 => h9) rfl dX5_way_129 ?_
        exact W.iret (v := (S 21 0)) hx hb hr (fun t ht hW => ⟨⟨_, S, rfl, h, zP_h ht hP⟩, hS.F ht⟩) hS.2.2 dX5_way_132
      · replace h := And.right h c91
        refine lv_aload_n hx hb dX5_way_94 rfl (lv_at hl 0 rfl) ?_
        refine lv_iload_n hx hb dX5_way_95 rfl (lv_at hl 1 rfl) ?_
        refine zc_if (ws' := fun u => (bX5 ah cy u)) (va_runV (As := [.int x2]) (rest := []) ⟨hx, hb, hml, hown, htB⟩ (c_X5_comesAs l D cy ah H.size x2 S h) (cwV 1 htB (zgV zm_332 zm_334 zm_335 zm_263 zm_333) rfl rfl rfl hd_X5_comesAs ⟨Nat.le_of_ble_eq_true rfl, Nat.le_of_ble_eq_true rfl⟩) ⟨zM_blind, va_recv hK hP (ci := 5) (q0 := 0) rfl rfl, zM_pre hP hK hN hD⟩ rfl rfl hl.1 rfl (lv_room (Nat.le_of_ble_eq_true rfl)) dX5_way_96 ⟨Nat.zero_le _, Nat.zero_le _⟩) hS hA hP hD (fun u => rfl) (fun u => rfl) (fun r96 u H locs h hP hD hS => ?_)
        obtain ⟨S_96, eu⟩ : ∃ z, z = u := ⟨_, rfl⟩
        subst eu
        replace hP : va_P D zCl (bX5 ah cy S_96) H := hP
        replace hD : va_D A (bX5 ah cy S_96) := hD
        refine lv_if_eq (tgt := 105) hx hb dX5_way_99 (by decide) (fun c99 => ?_) (fun c99 => ?_)
        · replace h := And.left h c99
          exact L105 x2 S_96 h H locs hP hD hS ls (lv_sub hl [0, 1] rfl)
        · replace h := And.right h c99
          refine lv_goto (tgt := 122) hx hb dX5_way_102 (by decide) ?_
          obtain ⟨y122, ey122⟩ : ∃ z : Int32, z = (x2 + (1 : Int32)) := ⟨_, rfl⟩
          replace h := h y122 ey122
          refine lv_iinc (v := y122) (lv' := [(2, .int y122), (0, .ref (ah 99))]) hx hb dX5_way_122 hl (k := 1) rfl (by rw [ey122]; rfl) (by decide) rfl (fun ls hl => ?_)
          refine lv_goto (tgt := 86) hx hb dX5_way_125 (by decide) ?_
          exact ih86 y122 S_96 h H locs hP hD hS ls (lv_sub hl [1, 0] rfl)
  have L60 : ∀ (x1 : Int32) (S : zT), wpb_X5_way_60 Q x1 S → ∀ (H : Heap) (locs : List Loc), va_P D zCl (bX5 ah cy S) H → va_D A (bX5 ah cy S) → va_S A s.heap H locs → ∀ ls : Array Slot, lv_has ls 3 [(0, .ref (ah 99)), (1, .int x1)] → W p l e rm_X5_way s m ([.ref (ah 99)] : List Value).toArray below meth c H locs 0 0 (MQ below (va_Qi (S := zT) (fun (r : Int32) (u : zT) => Q r u) (fun u t => va_P D zCl ((fun (u : zT) => (bX5 ah cy u)) u) t.heap) A) ([.ref (ah 99)] : List Value).toArray s 0 0 A) (F0 m 60 ls []) := by
    intro x1 S h H locs hP hD hS ls hl
    refine lv_aload_n hx hb dX5_way_60 rfl (lv_at hl 0 rfl) ?_
    refine lv_iconst (v := (0 : Int32)) hx hb dX5_way_61 (by decide) ?_
    refine va_put (D := D) (ci := 5) (v := .int (0 : Int32)) (ty := .int) (C := RX5) (T := TX5) (N := 41) hx hb htB ziX5 tyX5 tyX5_ok nmX5 hown hK hP hD hS 0 rfl rfl 19 (by decide) (htB _ zm_260) (fun _ h9 => h9) rfl (tyX5_ok 19 (by decide)) rfl rfl (Nat.le_of_ble_eq_true rfl) dX5_way_62 (fun H locs hP hD hS => ?_)
    obtain ⟨S_62, eS_62⟩ : ∃ z : zT, z = (va_up S 19 (fun _ => (0 : Int32))) := ⟨_, rfl⟩
    replace h := h S_62 eS_62
    replace hP : va_P D zCl (bX5 ah cy S_62) H := by rw [eS_62]; exact hP
    replace hD : va_D A (bX5 ah cy S_62) := by rw [eS_62]; exact hD
    refine lv_iload_n hx hb dX5_way_65 rfl (lv_at hl 1 rfl) ?_
    refine lv_if_ne (tgt := 78) hx hb dX5_way_66 (by decide) (fun c66 => ?_) (fun c66 => ?_)
    · replace h := And.right h c66
      refine lv_aload_n hx hb dX5_way_78 rfl (lv_at hl 0 rfl) ?_
      refine lv_iconst (v := (1 : Int32)) hx hb dX5_way_79 (by decide) ?_
      refine lv_iconst (v := (1 : Int32)) hx hb dX5_way_80 (by decide) ?_
      refine zc_vf (ws' := fun u => (bX5 ah cy u)) (va_runV (As := [.int (1 : Int32), .int (1 : Int32)]) (rest := []) ⟨hx, hb, hml, hown, htB⟩ (c_X5_passesAll l D cy ah H.size (1 : Int32) (1 : Int32) S_62 h) (cwV 2 htB (zgV zm_328 zm_330 zm_331 zm_263 zm_329) rfl rfl rfl hd_X5_passesAll ⟨Nat.le_of_ble_eq_true rfl, Nat.le_of_ble_eq_true rfl⟩) ⟨zM_blind, va_recv hK hP (ci := 5) (q0 := 0) rfl rfl, zM_pre hP hK hN hD⟩ rfl rfl hl.1 rfl (lv_room (Nat.le_of_ble_eq_true rfl)) dX5_way_81 ⟨Nat.zero_le _, Nat.zero_le _⟩) hS hA hP hD (fun u => rfl) (fun u => rfl) (fun u H locs h hP hD hS => ?_)
      obtain ⟨S_81, eu⟩ : ∃ z, z = u := ⟨_, rfl⟩
      subst eu
      replace hP : va_P D zCl (bX5 ah cy S_81) H := hP
      replace hD : va_D A (bX5 ah cy S_81) := hD
      refine lv_iconst (v := (0 : Int32)) hx hb dX5_way_84 (by decide) ?_
      refine lv_istore_n (lv' := [(2, .int (0 : Int32)), (0, .ref (ah 99)), (1, .int x1)]) hx hb dX5_way_85 rfl hl (by decide) rfl (fun ls hl => ?_)
      obtain ⟨nn, h⟩ := h
      exact L86 nn (0 : Int32) S_81 h H locs hP hD hS ls (lv_sub hl [1, 0] rfl)
    · replace h := And.left h c66
      refine lv_sipush (v := (-1000 : Int32)) hx hb dX5_way_69 (by decide) ?_
      refine lv_aload_n hx hb dX5_way_72 rfl (lv_at hl 0 rfl) ?_
      refine va_get (D := D) (ci := 5) (v := .int (S_62 20 0)) (C := RX5) (T := TX5) (N := 41) hx hb htB ziX5 hown hK hP 0 rfl rfl 20 (by decide) (htB _ zm_269) (fun _ h9 => h9) rfl dX5_way_73 ?_
      refine lv_isub hx hb dX5_way_76 ?_
      exact W.iret (v := ((-1000 : Int32) - (S_62 20 0))) hx hb hr (fun t ht hW => ⟨⟨_, S_62, rfl, h, zP_h ht hP⟩, hS.F ht⟩) hS.2.2 dX5_way_77
  have L12 : ∀ (k12 : Nat) (x1 : Int32) (S : zT), wpl_X5_way_12 Q k12 x1 S → ∀ (H : Heap) (locs : List Loc), va_P D zCl (bX5 ah cy S) H → va_D A (bX5 ah cy S) → va_S A s.heap H locs → ∀ ls : Array Slot, lv_has ls 3 [(0, .ref (ah 99)), (1, .int x1)] → W p l e rm_X5_way s m ([.ref (ah 99)] : List Value).toArray below meth c H locs 0 0 (MQ below (va_Qi (S := zT) (fun (r : Int32) (u : zT) => Q r u) (fun u t => va_P D zCl ((fun (u : zT) => (bX5 ah cy u)) u) t.heap) A) ([.ref (ah 99)] : List Value).toArray s 0 0 A) (F0 m 12 ls []) := by
    intro k12
    induction k12 with
    | zero => exact fun x1 S h => False.elim h
    | succ k12 ih12 =>
      have L53 : ∀ (x1 : Int32) (t1 : Int32) (t2 : Int32) (S : zT), wpb_X5_way_53 Q (wpl_X5_way_12 Q k12) x1 t1 t2 S → ∀ (H : Heap) (locs : List Loc), va_P D zCl (bX5 ah cy S) H → va_D A (bX5 ah cy S) → va_S A s.heap H locs → ∀ ls : Array Slot, lv_has ls 3 [(0, .ref (ah 99)), (1, .int x1)] → W p l e rm_X5_way s m ([.ref (ah 99)] : List Value).toArray below meth c H locs 0 0 (MQ below (va_Qi (S := zT) (fun (r : Int32) (u : zT) => Q r u) (fun u t => va_P D zCl ((fun (u : zT) => (bX5 ah cy u)) u) t.heap) A) ([.ref (ah 99)] : List Value).toArray s 0 0 A) (F0 m 53 ls [.int t2, .int t1, .ref (ah 99)]) := by
        intro x1 t1 t2 S h H locs hP hD hS ls hl
        refine lv_iadd hx hb dX5_way_53 ?_
        refine va_put (D := D) (ci := 5) (v := .int (t1 + t2)) (ty := .int) (C := RX5) (T := TX5) (N := 41) hx hb htB ziX5 tyX5 tyX5_ok nmX5 hown hK hP hD hS 0 rfl rfl 21 (by decide) (htB _ zm_294) (fun _ h9 => h9) rfl (tyX5_ok 21 (by decide)) rfl rfl (Nat.le_of_ble_eq_true rfl) dX5_way_54 (fun H locs hP hD hS => ?_)
        obtain ⟨S_54, eS_54⟩ : ∃ z : zT, z = (va_up S 21 (fun _ => (t1 + t2))) := ⟨_, rfl⟩
        replace h := h S_54 eS_54
        replace hP : va_P D zCl (bX5 ah cy S_54) H := by rw [eS_54]; exact hP
        replace hD : va_D A (bX5 ah cy S_54) := by rw [eS_54]; exact hD
        refine lv_goto (tgt := 12) hx hb dX5_way_57 (by decide) ?_
        exact ih12 x1 S_54 h H locs hP hD hS ls (lv_sub hl [0, 1] rfl)
      have L34 : ∀ (S : zT), wpb_X5_way_34 Q (wpl_X5_way_12 Q k12) S → ∀ (H : Heap) (locs : List Loc), va_P D zCl (bX5 ah cy S) H → va_D A (bX5 ah cy S) → va_S A s.heap H locs → ∀ ls : Array Slot, lv_has ls 3 [(0, .ref (ah 99))] → W p l e rm_X5_way s m ([.ref (ah 99)] : List Value).toArray below meth c H locs 0 0 (MQ below (va_Qi (S := zT) (fun (r : Int32) (u : zT) => Q r u) (fun u t => va_P D zCl ((fun (u : zT) => (bX5 ah cy u)) u) t.heap) A) ([.ref (ah 99)] : List Value).toArray s 0 0 A) (F0 m 34 ls []) := by
        intro S h H locs hP hD hS ls hl
        refine lv_aload_n hx hb dX5_way_34 rfl (lv_at hl 0 rfl) ?_
        refine zc_if (ws' := fun u => (bX5 ah cy u)) (va_runV (As := []) (rest := []) ⟨hx, hb, hml, hown, htB⟩ (c_X5_statement l D cy ah H.size S h) (cwV 0 htB (zgV zm_336 zm_338 zm_339 zm_263 zm_337) rfl rfl rfl hd_X5_statement ⟨Nat.le_of_ble_eq_true rfl, Nat.le_of_ble_eq_true rfl⟩) ⟨zM_blind, va_recv hK hP (ci := 5) (q0 := 0) rfl rfl, zM_pre hP hK hN hD⟩ rfl rfl hl.1 rfl (lv_room (Nat.le_of_ble_eq_true rfl)) dX5_way_35 ⟨Nat.zero_le _, Nat.zero_le _⟩) hS hA hP hD (fun u => rfl) (fun u => rfl) (fun r35 u H locs h hP hD hS => ?_)
        obtain ⟨S_35, eu⟩ : ∃ z, z = u := ⟨_, rfl⟩
        subst eu
        replace hP : va_P D zCl (bX5 ah cy S_35) H := hP
        replace hD : va_D A (bX5 ah cy S_35) := hD
        refine lv_istore_n (lv' := [(1, .int r35), (0, .ref (ah 99))]) hx hb dX5_way_38 rfl hl (by decide) rfl (fun ls hl => ?_)
        refine lv_aload_n hx hb dX5_way_39 rfl (lv_at hl 1 rfl) ?_
        refine lv_dup hx hb dX5_way_40 rfl ?_
        refine va_get (D := D) (ci := 5) (v := .int (S_35 21 0)) (C := RX5) (T := TX5) (N := 41) hx hb htB ziX5 hown hK hP 0 rfl rfl 21 (by decide) (htB _ zm_294) (fun _ h9 => h9) rfl dX5_way_41 ?_
        refine lv_iload_n hx hb dX5_way_44 rfl (lv_at hl 0 rfl) ?_
        refine lv_if_eq (tgt := 52) hx hb dX5_way_45 (by decide) (fun c45 => ?_) (fun c45 => ?_)
        · replace h := And.left h c45
          refine lv_iconst (v := (0 : Int32)) hx hb dX5_way_52 (by decide) ?_
          exact L53 r35 (S_35 21 0) (0 : Int32) S_35 h H locs hP hD hS ls (lv_sub hl [1, 0] rfl)
        · replace h := And.right h c45
          refine lv_iconst (v := (1 : Int32)) hx hb dX5_way_48 (by decide) ?_
          refine lv_goto (tgt := 53) hx hb dX5_way_49 (by decide) ?_
          exact L53 r35 (S_35 21 0) (1 : Int32) S_35 h H locs hP hD hS ls (lv_sub hl [1, 0] rfl)
      intro x1 S h H locs hP hD hS ls hl
      refine lv_iload_n hx hb dX5_way_12 rfl (lv_at hl 1 rfl) ?_
      refine lv_if_eq (tgt := 60) hx hb dX5_way_13 (by decide) (fun c13 => ?_) (fun c13 => ?_)
      · replace h := And.left h c13
        exact L60 x1 S h H locs hP hD hS ls (lv_sub hl [0, 1] rfl)
      · replace h := And.right h c13
        refine lv_aload_n hx hb dX5_way_16 rfl (lv_at hl 0 rfl) ?_
        refine va_get (D := D) (ci := 5) (v := .int (S 20 0)) (C := RX5) (T := TX5) (N := 41) hx hb htB ziX5 hown hK hP 0 rfl rfl 20 (by decide) (htB _ zm_269) (fun _ h9 => h9) rfl dX5_way_17 ?_
        refine lv_aload_n hx hb dX5_way_20 rfl (lv_at hl 0 rfl) ?_
        refine va_get (D := D) (ci := 5) (v := .int (S 19 0)) (C := RX5) (T := TX5) (N := 41) hx hb htB ziX5 hown hK hP 0 rfl rfl 19 (by decide) (htB _ zm_260) (fun _ h9 => h9) rfl dX5_way_21 ?_
        refine lv_icmp_lt (tgt := 34) hx hb dX5_way_24 (by decide) (fun c24 => ?_) (fun c24 => ?_)
        · replace h := And.left h c24
          exact L34 S h H locs hP hD hS ls (lv_sub hl [0] rfl)
        · replace h := And.right h c24
          refine lv_aload_n hx hb dX5_way_27 rfl (lv_at hl 0 rfl) ?_
          refine va_get (D := D) (ci := 5) (v := .int (S 21 0)) (C := RX5) (T := TX5) (N := 41) hx hb htB ziX5 hown hK hP 0 rfl rfl 21 (by decide) (htB _ zm_294) (fun _ h9 => h9) rfl dX5_way_28 ?_
          refine lv_if_ne (tgt := 60) hx hb dX5_way_31 (by decide) (fun c31 => ?_) (fun c31 => ?_)
          · replace h := And.right h c31
            exact L60 x1 S h H locs hP hD hS ls (lv_sub hl [0, 1] rfl)
          · replace h := And.left h c31
            exact L34 S h H locs hP hD hS ls (lv_sub hl [0] rfl)
  refine lv_aload_n hx hb dX5_way_0 rfl (lv_at hl 0 rfl) ?_
  refine lv_iconst (v := (0 : Int32)) hx hb dX5_way_1 (by decide) ?_
  refine va_put (D := D) (ci := 5) (v := .int (0 : Int32)) (ty := .int) (C := RX5) (T := TX5) (N := 41) hx hb htB ziX5 tyX5 tyX5_ok nmX5 hown hK hP hD hS 0 rfl rfl 20 (by decide) (htB _ zm_269) (fun _ h9 => h9) rfl (tyX5_ok 20 (by decide)) rfl rfl (Nat.le_of_ble_eq_true rfl) dX5_way_2 (fun H locs hP hD hS => ?_)
  obtain ⟨S_2, eS_2⟩ : ∃ z : zT, z = (va_up S 20 (fun _ => (0 : Int32))) := ⟨_, rfl⟩
  replace h := h S_2 eS_2
  replace hP : va_P D zCl (bX5 ah cy S_2) H := by rw [eS_2]; exact hP
  replace hD : va_D A (bX5 ah cy S_2) := by rw [eS_2]; exact hD
  refine lv_aload_n hx hb dX5_way_5 rfl (lv_at hl 0 rfl) ?_
  refine lv_iconst (v := (0 : Int32)) hx hb dX5_way_6 (by decide) ?_
  refine va_put (D := D) (ci := 5) (v := .int (0 : Int32)) (ty := .int) (C := RX5) (T := TX5) (N := 41) hx hb htB ziX5 tyX5 tyX5_ok nmX5 hown hK hP hD hS 0 rfl rfl 21 (by decide) (htB _ zm_294) (fun _ h9 => h9) rfl (tyX5_ok 21 (by decide)) rfl rfl (Nat.le_of_ble_eq_true rfl) dX5_way_7 (fun H locs hP hD hS => ?_)
  obtain ⟨S_7, eS_7⟩ : ∃ z : zT, z = (va_up S_2 21 (fun _ => (0 : Int32))) := ⟨_, rfl⟩
  replace h := h S_7 eS_7
  replace hP : va_P D zCl (bX5 ah cy S_7) H := by rw [eS_7]; exact hP
  replace hD : va_D A (bX5 ah cy S_7) := by rw [eS_7]; exact hD
  refine lv_iconst (v := (1 : Int32)) hx hb dX5_way_10 (by decide) ?_
  refine lv_istore_n (lv' := [(1, .int (1 : Int32)), (0, .ref (ah 99))]) hx hb dX5_way_11 rfl hl (by decide) rfl (fun ls hl => ?_)
  obtain ⟨nn, h⟩ := h
  exact L12 nn (1 : Int32) S_7 h H locs hP hD hS ls (lv_sub hl [1, 0] rfl)
set_option maxHeartbeats 4000000 in
set_option maxRecDepth 100000 in
theorem c_X5_image (l : Launch) (D : va_G) (cy : ClassId) (ah : Nat → Nat) (sz : Nat) (S : zT) {Q : Int32 → zT → Prop} (h : wp_X5_image S Q) : Met l yX5_image w_X5_image rm_X5_image (va_Pc [.ref (ah 99)] (zM D cy (bX5 ah cy S) sz)) (va_Qi (S := zT) (fun (r : Int32) (u : zT) => Q r u) (fun u t => va_P D zCl ((fun (u : zT) => (bX5 ah cy u)) u) t.heap) (va_A (bX5 ah cy S) sz)) 0 0 (va_A (bX5 ah cy S) sz) := by
  refine zOf_i (by decide) (Nat.le_of_ble_eq_true rfl) ?_
  intro p e s m below meth c ls A H locs hx hb hr hml hown htB hlocks hK hN hP hD hS hA hl
  replace hl : lv_has ls 1 [(0, .ref (ah 99))] := hl
  refine lv_aload_n hx hb dX5_image_0 rfl (lv_at hl 0 rfl) ?_
  refine lv_iconst (v := (1 : Int32)) hx hb dX5_image_1 (by decide) ?_
  refine va_put (D := D) (ci := 5) (v := .int (1 : Int32)) (ty := .boolean) (C := RX5) (T := TX5) (N := 41) hx hb htB ziX5 tyX5 tyX5_ok nmX5 hown hK hP hD hS 0 rfl rfl 23 (by decide) (htB _ zm_340) (fun _ h9 => h9) rfl (tyX5_ok 23 (by decide)) rfl rfl (Nat.le_of_ble_eq_true rfl) dX5_image_2 (fun H locs hP hD hS => ?_)
  obtain ⟨S_2, eS_2⟩ : ∃ z : zT, z = (va_up S 23 (fun _ => (1 : Int32))) := ⟨_, rfl⟩
  replace h := h S_2 eS_2
  replace hP : va_P D zCl (bX5 ah cy S_2) H := by rw [eS_2]; exact hP
  replace hD : va_D A (bX5 ah cy S_2) := by rw [eS_2]; exact hD
  refine lv_aload_n hx hb dX5_image_5 rfl (lv_at hl 0 rfl) ?_
  refine lv_iconst (v := (0 : Int32)) hx hb dX5_image_6 (by decide) ?_
  refine lv_iconst (v := (1 : Int32)) hx hb dX5_image_7 (by decide) ?_
  refine zc_vf (ws' := fun u => (bX5 ah cy u)) (va_runV (As := [.int (0 : Int32), .int (1 : Int32)]) (rest := []) ⟨hx, hb, hml, hown, htB⟩ (c_X5_passesAll l D cy ah H.size (0 : Int32) (1 : Int32) S_2 h) (cwV 2 htB (zgV zm_328 zm_330 zm_331 zm_263 zm_329) rfl rfl rfl hd_X5_passesAll ⟨Nat.le_of_ble_eq_true rfl, Nat.le_of_ble_eq_true rfl⟩) ⟨zM_blind, va_recv hK hP (ci := 5) (q0 := 0) rfl rfl, zM_pre hP hK hN hD⟩ rfl rfl hl.1 rfl (lv_room (Nat.le_of_ble_eq_true rfl)) dX5_image_8 ⟨Nat.zero_le _, Nat.zero_le _⟩) hS hA hP hD (fun u => rfl) (fun u => rfl) (fun u H locs h hP hD hS => ?_)
  obtain ⟨S_8, eu⟩ : ∃ z, z = u := ⟨_, rfl⟩
  subst eu
  replace hP : va_P D zCl (bX5 ah cy S_8) H := hP
  replace hD : va_D A (bX5 ah cy S_8) := hD
  refine lv_aload_n hx hb dX5_image_11 rfl (lv_at hl 0 rfl) ?_
  refine va_get (D := D) (ci := 5) (v := .int (S_8 13 0)) (C := RX5) (T := TX5) (N := 41) hx hb htB ziX5 hown hK hP 0 rfl rfl 13 (by decide) (htB _ zm_258) (fun _ h9 => h9) rfl dX5_image_12 ?_
  exact W.iret (v := (S_8 13 0)) hx hb hr (fun t ht hW => ⟨⟨_, S_8, rfl, h, zP_h ht hP⟩, hS.F ht⟩) hS.2.2 dX5_image_15
set_option maxHeartbeats 4000000 in
set_option maxRecDepth 100000 in
theorem c_X5_on (l : Launch) (D : va_G) (cy : ClassId) (ah : Nat → Nat) (sz : Nat) (S : zT) {Q : Int32 → zT → Prop} (h : wp_X5_on S Q) : Met l yX5_on w_X5_on rm_X5_on (va_Pc [.ref (ah 99)] (zM D cy (bX5 ah cy S) sz)) (va_Qi (S := zT) (fun (r : Int32) (u : zT) => Q r u) (fun u t => va_P D zCl ((fun (u : zT) => (bX5 ah cy u)) u) t.heap) (va_A (bX5 ah cy S) sz)) 0 0 (va_A (bX5 ah cy S) sz) := by
  refine zOf_i (by decide) (Nat.le_of_ble_eq_true rfl) ?_
  intro p e s m below meth c ls A H locs hx hb hr hml hown htB hlocks hK hN hP hD hS hA hl
  replace hl : lv_has ls 1 [(0, .ref (ah 99))] := hl
  refine lv_aload_n hx hb dX5_on_0 rfl (lv_at hl 0 rfl) ?_
  refine va_get (D := D) (ci := 5) (v := .int (S 23 0)) (C := RX5) (T := TX5) (N := 41) hx hb htB ziX5 hown hK hP 0 rfl rfl 23 (by decide) (htB _ zm_340) (fun _ h9 => h9) rfl dX5_on_1 ?_
  refine lv_if_ne (tgt := 14) hx hb dX5_on_4 (by decide) (fun c4 => ?_) (fun c4 => ?_)
  · replace h := And.right h c4
    refine lv_aload_n hx hb dX5_on_14 rfl (lv_at hl 0 rfl) ?_
    refine lv_iconst (v := (0 : Int32)) hx hb dX5_on_15 (by decide) ?_
    refine lv_iconst (v := (0 : Int32)) hx hb dX5_on_16 (by decide) ?_
    refine zc_vf (ws' := fun u => (bX5 ah cy u)) (va_runV (As := [.int (0 : Int32), .int (0 : Int32)]) (rest := []) ⟨hx, hb, hml, hown, htB⟩ (c_X5_passesAll l D cy ah H.size (0 : Int32) (0 : Int32) S h) (cwV 2 htB (zgV zm_328 zm_330 zm_331 zm_263 zm_329) rfl rfl rfl hd_X5_passesAll ⟨Nat.le_of_ble_eq_true rfl, Nat.le_of_ble_eq_true rfl⟩) ⟨zM_blind, va_recv hK hP (ci := 5) (q0 := 0) rfl rfl, zM_pre hP hK hN hD⟩ rfl rfl hl.1 rfl (lv_room (Nat.le_of_ble_eq_true rfl)) dX5_on_17 ⟨Nat.zero_le _, Nat.zero_le _⟩) hS hA hP hD (fun u => rfl) (fun u => rfl) (fun u H locs h hP hD hS => ?_)
    obtain ⟨S_17, eu⟩ : ∃ z, z = u := ⟨_, rfl⟩
    subst eu
    replace hP : va_P D zCl (bX5 ah cy S_17) H := hP
    replace hD : va_D A (bX5 ah cy S_17) := hD
    refine lv_aload_n hx hb dX5_on_20 rfl (lv_at hl 0 rfl) ?_
    refine va_get (D := D) (ci := 5) (v := .int (S_17 13 0)) (C := RX5) (T := TX5) (N := 41) hx hb htB ziX5 hown hK hP 0 rfl rfl 13 (by decide) (htB _ zm_258) (fun _ h9 => h9) rfl dX5_on_21 ?_
    exact W.iret (v := (S_17 13 0)) hx hb hr (fun t ht hW => ⟨⟨_, S_17, rfl, h, zP_h ht hP⟩, hS.F ht⟩) hS.2.2 dX5_on_24
  · replace h := And.left h c4
    refine lv_aload_n hx hb dX5_on_7 rfl (lv_at hl 0 rfl) ?_
    refine lv_bipush (v := (-3 : Int32)) hx hb dX5_on_8 (by decide) ?_
    refine zc_if (ws' := fun u => (bX5 ah cy u)) (va_runV (As := [.int (-3 : Int32)]) (rest := []) ⟨hx, hb, hml, hown, htB⟩ (c_X5_no l D cy ah H.size (-3 : Int32) S h) (cwV 1 htB (zgV zm_261 zm_264 zm_265 zm_263 zm_262) rfl rfl rfl hd_X5_no ⟨Nat.le_of_ble_eq_true rfl, Nat.le_of_ble_eq_true rfl⟩) ⟨zM_blind, va_recv hK hP (ci := 5) (q0 := 0) rfl rfl, zM_pre hP hK hN hD⟩ rfl rfl hl.1 rfl (lv_room (Nat.le_of_ble_eq_true rfl)) dX5_on_10 ⟨Nat.zero_le _, Nat.zero_le _⟩) hS hA hP hD (fun u => rfl) (fun u => rfl) (fun r10 u H locs h hP hD hS => ?_)
    obtain ⟨S_10, eu⟩ : ∃ z, z = u := ⟨_, rfl⟩
    subst eu
    replace hP : va_P D zCl (bX5 ah cy S_10) H := hP
    replace hD : va_D A (bX5 ah cy S_10) := hD
    exact W.iret (v := r10) hx hb hr (fun t ht hW => ⟨⟨_, S_10, rfl, h, zP_h ht hP⟩, hS.F ht⟩) hS.2.2 dX5_on_13
set_option maxHeartbeats 4000000 in
set_option maxRecDepth 100000 in
theorem c_X5_heldYards (l : Launch) (D : va_G) (cy : ClassId) (ah : Nat → Nat) (S : zT) (i1 : Int32) {Q : Int32 → Prop} (h : wp_X5_heldYards S i1 Q) : Met l yX5_heldYards w_X5_heldYards rm_X5_heldYards (va_Pc [.ref (ah 99), .int i1] (zR D cy (bX5 ah cy S))) (vp_Si Q) 0 0 (fun _ => False) := by
  refine zOf_r (by decide) (Nat.le_of_ble_eq_true rfl) ?_
  intro p e s m below meth c ls hx hb hr hml hown htB hlocks hK hN hP hl
  replace hl : lv_has ls 2 [(0, .ref (ah 99)), (1, .int i1)] := hl
  refine lv_aload_n hx hb dX5_heldYards_0 rfl (lv_at hl 0 rfl) ?_
  refine va_get (D := D) (ci := 5) (v := .ref (ah 1)) (C := RX5) (T := TX5) (N := 41) hx hb htB ziX5 hown hK hP 0 rfl rfl 1 (by decide) (htB _ zm_300) (fun _ h9 => h9) rfl dX5_heldYards_1 ?_
  refine lv_iload_n hx hb dX5_heldYards_4 rfl (lv_at hl 1 rfl) ?_
  refine va_iald (D := D) hx hb hK hP 2 0 rfl rfl (And.left h) dX5_heldYards_5 ?_
  replace h := And.right h
  by_cases c6_0 : (S 1 i1.toNatClampNeg) = (1 : Int32)
  · replace h := And.left h c6_0
    refine lv_tableIn (off := 34) (tgt := 40) hx hb dX5_heldYards_6 (by rw [c6_0]; decide) (by rw [c6_0]; decide) (by rw [c6_0]; rfl) (by decide) ?_
    refine lv_iconst (v := (2 : Int32)) hx hb dX5_heldYards_40 (by decide) ?_
    refine lv_aload_n hx hb dX5_heldYards_41 rfl (lv_at hl 0 rfl) ?_
    refine va_get (D := D) (ci := 5) (v := .ref (ah 4)) (C := RX5) (T := TX5) (N := 41) hx hb htB ziX5 hown hK hP 0 rfl rfl 4 (by decide) (htB _ zm_303) (fun _ h9 => h9) rfl dX5_heldYards_42 ?_
    refine lv_iload_n hx hb dX5_heldYards_45 rfl (lv_at hl 1 rfl) ?_
    refine va_iald (D := D) hx hb hK hP 5 0 rfl rfl (And.left h) dX5_heldYards_46 ?_
    replace h := And.right h
    refine lv_imul hx hb dX5_heldYards_47 ?_
    exact W.iret (v := ((2 : Int32) * (S 4 i1.toNatClampNeg))) hx hb hr (fun t ht hW => ⟨_, rfl, h, ht⟩) (fun q hq => by cases hq) dX5_heldYards_48
  · replace h := And.right h c6_0
    by_cases c6_1 : (S 1 i1.toNatClampNeg) = (2 : Int32)
    · replace h := And.left h c6_1
      refine lv_tableIn (off := 43) (tgt := 49) hx hb dX5_heldYards_6 (by rw [c6_1]; decide) (by rw [c6_1]; decide) (by rw [c6_1]; rfl) (by decide) ?_
      refine lv_iconst (v := (2 : Int32)) hx hb dX5_heldYards_49 (by decide) ?_
      refine lv_aload_n hx hb dX5_heldYards_50 rfl (lv_at hl 0 rfl) ?_
      refine va_get (D := D) (ci := 5) (v := .ref (ah 4)) (C := RX5) (T := TX5) (N := 41) hx hb htB ziX5 hown hK hP 0 rfl rfl 4 (by decide) (htB _ zm_303) (fun _ h9 => h9) rfl dX5_heldYards_51 ?_
      refine lv_iload_n hx hb dX5_heldYards_54 rfl (lv_at hl 1 rfl) ?_
      refine va_iald (D := D) hx hb hK hP 5 0 rfl rfl (And.left h) dX5_heldYards_55 ?_
      replace h := And.right h
      refine lv_imul hx hb dX5_heldYards_56 ?_
      refine lv_iconst (v := (1 : Int32)) hx hb dX5_heldYards_57 (by decide) ?_
      refine lv_iadd hx hb dX5_heldYards_58 ?_
      exact W.iret (v := (((2 : Int32) * (S 4 i1.toNatClampNeg)) + (1 : Int32))) hx hb hr (fun t ht hW => ⟨_, rfl, h, ht⟩) (fun q hq => by cases hq) dX5_heldYards_59
    · replace h := And.right h c6_1
      by_cases c6_2 : (S 1 i1.toNatClampNeg) = (3 : Int32)
      · replace h := And.left h c6_2
        refine lv_tableIn (off := 54) (tgt := 60) hx hb dX5_heldYards_6 (by rw [c6_2]; decide) (by rw [c6_2]; decide) (by rw [c6_2]; rfl) (by decide) ?_
        refine lv_aload_n hx hb dX5_heldYards_60 rfl (lv_at hl 0 rfl) ?_
        refine va_get (D := D) (ci := 5) (v := .ref (ah 4)) (C := RX5) (T := TX5) (N := 41) hx hb htB ziX5 hown hK hP 0 rfl rfl 4 (by decide) (htB _ zm_303) (fun _ h9 => h9) rfl dX5_heldYards_61 ?_
        refine lv_iload_n hx hb dX5_heldYards_64 rfl (lv_at hl 1 rfl) ?_
        refine va_iald (D := D) hx hb hK hP 5 0 rfl rfl (And.left h) dX5_heldYards_65 ?_
        replace h := And.right h
        refine lv_aload_n hx hb dX5_heldYards_66 rfl (lv_at hl 0 rfl) ?_
        refine va_get (D := D) (ci := 5) (v := .ref (ah 5)) (C := RX5) (T := TX5) (N := 41) hx hb htB ziX5 hown hK hP 0 rfl rfl 5 (by decide) (htB _ zm_304) (fun _ h9 => h9) rfl dX5_heldYards_67 ?_
        refine lv_iload_n hx hb dX5_heldYards_70 rfl (lv_at hl 1 rfl) ?_
        refine va_iald (D := D) hx hb hK hP 6 0 rfl rfl (And.left h) dX5_heldYards_71 ?_
        replace h := And.right h
        refine lv_icmp_le (tgt := 91) hx hb dX5_heldYards_72 (by decide) (fun c72 => ?_) (fun c72 => ?_)
        · replace h := And.left h c72
          refine lv_iconst (v := (1 : Int32)) hx hb dX5_heldYards_91 (by decide) ?_
          exact W.iret (v := (1 : Int32)) hx hb hr (fun t ht hW => ⟨_, rfl, h, ht⟩) (fun q hq => by cases hq) dX5_heldYards_92
        · replace h := And.right h c72
          refine lv_aload_n hx hb dX5_heldYards_75 rfl (lv_at hl 0 rfl) ?_
          refine va_get (D := D) (ci := 5) (v := .ref (ah 4)) (C := RX5) (T := TX5) (N := 41) hx hb htB ziX5 hown hK hP 0 rfl rfl 4 (by decide) (htB _ zm_303) (fun _ h9 => h9) rfl dX5_heldYards_76 ?_
          refine lv_iload_n hx hb dX5_heldYards_79 rfl (lv_at hl 1 rfl) ?_
          refine va_iald (D := D) hx hb hK hP 5 0 rfl rfl (And.left h) dX5_heldYards_80 ?_
          replace h := And.right h
          refine lv_aload_n hx hb dX5_heldYards_81 rfl (lv_at hl 0 rfl) ?_
          refine va_get (D := D) (ci := 5) (v := .ref (ah 5)) (C := RX5) (T := TX5) (N := 41) hx hb htB ziX5 hown hK hP 0 rfl rfl 5 (by decide) (htB _ zm_304) (fun _ h9 => h9) rfl dX5_heldYards_82 ?_
          refine lv_iload_n hx hb dX5_heldYards_85 rfl (lv_at hl 1 rfl) ?_
          refine va_iald (D := D) hx hb hK hP 6 0 rfl rfl (And.left h) dX5_heldYards_86 ?_
          replace h := And.right h
          refine lv_isub hx hb dX5_heldYards_87 ?_
          refine lv_goto (tgt := 92) hx hb dX5_heldYards_88 (by decide) ?_
          exact W.iret (v := ((S 4 i1.toNatClampNeg) - (S 5 i1.toNatClampNeg))) hx hb hr (fun t ht hW => ⟨_, rfl, h, ht⟩) (fun q hq => by cases hq) dX5_heldYards_92
      · replace h := And.right h c6_2
        by_cases c6_3 : (S 1 i1.toNatClampNeg) = (4 : Int32)
        · replace h := And.left h c6_3
          refine lv_tableIn (off := 87) (tgt := 93) hx hb dX5_heldYards_6 (by rw [c6_3]; decide) (by rw [c6_3]; decide) (by rw [c6_3]; rfl) (by decide) ?_
          refine lv_aload_n hx hb dX5_heldYards_93 rfl (lv_at hl 0 rfl) ?_
          refine va_get (D := D) (ci := 5) (v := .ref (ah 4)) (C := RX5) (T := TX5) (N := 41) hx hb htB ziX5 hown hK hP 0 rfl rfl 4 (by decide) (htB _ zm_303) (fun _ h9 => h9) rfl dX5_heldYards_94 ?_
          refine lv_iload_n hx hb dX5_heldYards_97 rfl (lv_at hl 1 rfl) ?_
          refine va_iald (D := D) hx hb hK hP 5 0 rfl rfl (And.left h) dX5_heldYards_98 ?_
          replace h := And.right h
          exact W.iret (v := (S 4 i1.toNatClampNeg)) hx hb hr (fun t ht hW => ⟨_, rfl, h, ht⟩) (fun q hq => by cases hq) dX5_heldYards_99
        · replace h := And.right h c6_3
          by_cases c6_4 : (S 1 i1.toNatClampNeg) = (5 : Int32)
          · replace h := And.left h c6_4
            refine lv_tableIn (off := 34) (tgt := 40) hx hb dX5_heldYards_6 (by rw [c6_4]; decide) (by rw [c6_4]; decide) (by rw [c6_4]; rfl) (by decide) ?_
            refine lv_iconst (v := (2 : Int32)) hx hb dX5_heldYards_40 (by decide) ?_
            refine lv_aload_n hx hb dX5_heldYards_41 rfl (lv_at hl 0 rfl) ?_
            refine va_get (D := D) (ci := 5) (v := .ref (ah 4)) (C := RX5) (T := TX5) (N := 41) hx hb htB ziX5 hown hK hP 0 rfl rfl 4 (by decide) (htB _ zm_303) (fun _ h9 => h9) rfl dX5_heldYards_42 ?_
            refine lv_iload_n hx hb dX5_heldYards_45 rfl (lv_at hl 1 rfl) ?_
            refine va_iald (D := D) hx hb hK hP 5 0 rfl rfl (And.left h) dX5_heldYards_46 ?_
            replace h := And.right h
            refine lv_imul hx hb dX5_heldYards_47 ?_
            exact W.iret (v := ((2 : Int32) * (S 4 i1.toNatClampNeg))) hx hb hr (fun t ht hW => ⟨_, rfl, h, ht⟩) (fun q hq => by cases hq) dX5_heldYards_48
          · replace h := And.right h c6_4
            have z0 := lv_neT c6_0 (a := 1) rfl
            have z1 := lv_neT c6_1 (a := 2) rfl
            have z2 := lv_neT c6_2 (a := 3) rfl
            have z3 := lv_neT c6_3 (a := 4) rfl
            have z4 := lv_neT c6_4 (a := 5) rfl
            refine lv_tableOut (tgt := 93) hx hb dX5_heldYards_6 (by omega) (by decide) ?_
            refine lv_aload_n hx hb dX5_heldYards_93 rfl (lv_at hl 0 rfl) ?_
            refine va_get (D := D) (ci := 5) (v := .ref (ah 4)) (C := RX5) (T := TX5) (N := 41) hx hb htB ziX5 hown hK hP 0 rfl rfl 4 (by decide) (htB _ zm_303) (fun _ h9 => h9) rfl dX5_heldYards_94 ?_
            refine lv_iload_n hx hb dX5_heldYards_97 rfl (lv_at hl 1 rfl) ?_
            refine va_iald (D := D) hx hb hK hP 5 0 rfl rfl (And.left h) dX5_heldYards_98 ?_
            replace h := And.right h
            exact W.iret (v := (S 4 i1.toNatClampNeg)) hx hb hr (fun t ht hW => ⟨_, rfl, h, ht⟩) (fun q hq => by cases hq) dX5_heldYards_99
set_option maxHeartbeats 4000000 in
set_option maxRecDepth 100000 in
theorem c_X5_walker (l : Launch) (D : va_G) (cy : ClassId) (ah : Nat → Nat) (sz : Nat) (i1 : Int32) (i2 : Int32) (S : zT) {Q : Int32 → zT → Prop} (h : wp_X5_walker i1 i2 S Q) : Met l yX5_walker w_X5_walker rm_X5_walker (va_Pc [.ref (ah 99), .int i1, .int i2] (zM D cy (bX5 ah cy S) sz)) (va_Qi (S := zT) (fun (r : Int32) (u : zT) => Q r u) (fun u t => va_P D zCl ((fun (u : zT) => (bX5 ah cy u)) u) t.heap) (va_A (bX5 ah cy S) sz)) 0 0 (va_A (bX5 ah cy S) sz) := by
  refine zOf_i (by decide) (Nat.le_of_ble_eq_true rfl) ?_
  intro p e s m below meth c ls A H locs hx hb hr hml hown htB hlocks hK hN hP hD hS hA hl
  replace hl : lv_has ls 3 [(0, .ref (ah 99)), (1, .int i1), (2, .int i2)] := hl
  refine lv_aload_n hx hb dX5_walker_0 rfl (lv_at hl 0 rfl) ?_
  refine lv_iload_n hx hb dX5_walker_1 rfl (lv_at hl 1 rfl) ?_
  refine zc_r (va_runV (As := [.int i1]) (rest := []) ⟨hx, hb, hml, hown, htB⟩ (c_X5_isWalker l D cy ah S i1 h) (cwV 1 htB (zgV zm_341 zm_343 zm_344 zm_263 zm_342) rfl rfl rfl hd_X5_isWalker ⟨Nat.le_of_ble_eq_true rfl, Nat.le_of_ble_eq_true rfl⟩) ⟨zR_blind, va_recv hK hP (ci := 5) (q0 := 0) rfl rfl, zR_pre hP hK hN⟩ rfl rfl hl.1 rfl (lv_room (Nat.le_of_ble_eq_true rfl)) dX5_walker_2 ⟨Nat.zero_le _, Nat.zero_le _⟩) (fun r2 h => ?_)
  refine lv_if_ne (tgt := 14) hx hb dX5_walker_5 (by decide) (fun c5 => ?_) (fun c5 => ?_)
  · replace h := And.right h c5
    refine lv_iload_n hx hb dX5_walker_14 rfl (lv_at hl 2 rfl) ?_
    by_cases c15_0 : i2 = (0 : Int32)
    · replace h := And.left h c15_0
      refine lv_tableIn (off := 45) (tgt := 60) hx hb dX5_walker_15 (by rw [c15_0]; decide) (by rw [c15_0]; decide) (by rw [c15_0]; rfl) (by decide) ?_
      refine lv_aload_n hx hb dX5_walker_60 rfl (lv_at hl 0 rfl) ?_
      refine va_get (D := D) (ci := 5) (v := .ref (ah 1)) (C := RX5) (T := TX5) (N := 41) hx hb htB ziX5 hown hK hP 0 rfl rfl 1 (by decide) (htB _ zm_300) (fun _ h9 => h9) rfl dX5_walker_61 ?_
      refine lv_iload_n hx hb dX5_walker_64 rfl (lv_at hl 1 rfl) ?_
      refine va_iald (D := D) hx hb hK hP 2 0 rfl rfl (And.left h) dX5_walker_65 ?_
      replace h := And.right h
      exact W.iret (v := (S 1 i1.toNatClampNeg)) hx hb hr (fun t ht hW => ⟨⟨_, S, rfl, h, zP_h ht hP⟩, hS.F ht⟩) hS.2.2 dX5_walker_66
    · replace h := And.right h c15_0
      by_cases c15_1 : i2 = (1 : Int32)
      · replace h := And.left h c15_1
        refine lv_tableIn (off := 52) (tgt := 67) hx hb dX5_walker_15 (by rw [c15_1]; decide) (by rw [c15_1]; decide) (by rw [c15_1]; rfl) (by decide) ?_
        refine lv_aload_n hx hb dX5_walker_67 rfl (lv_at hl 0 rfl) ?_
        refine va_get (D := D) (ci := 5) (v := .ref (ah 2)) (C := RX5) (T := TX5) (N := 41) hx hb htB ziX5 hown hK hP 0 rfl rfl 2 (by decide) (htB _ zm_301) (fun _ h9 => h9) rfl dX5_walker_68 ?_
        refine lv_iload_n hx hb dX5_walker_71 rfl (lv_at hl 1 rfl) ?_
        refine va_iald (D := D) hx hb hK hP 3 0 rfl rfl (And.left h) dX5_walker_72 ?_
        replace h := And.right h
        exact W.iret (v := (S 2 i1.toNatClampNeg)) hx hb hr (fun t ht hW => ⟨⟨_, S, rfl, h, zP_h ht hP⟩, hS.F ht⟩) hS.2.2 dX5_walker_73
      · replace h := And.right h c15_1
        by_cases c15_2 : i2 = (2 : Int32)
        · replace h := And.left h c15_2
          refine lv_tableIn (off := 59) (tgt := 74) hx hb dX5_walker_15 (by rw [c15_2]; decide) (by rw [c15_2]; decide) (by rw [c15_2]; rfl) (by decide) ?_
          refine lv_aload_n hx hb dX5_walker_74 rfl (lv_at hl 0 rfl) ?_
          refine va_get (D := D) (ci := 5) (v := .ref (ah 3)) (C := RX5) (T := TX5) (N := 41) hx hb htB ziX5 hown hK hP 0 rfl rfl 3 (by decide) (htB _ zm_302) (fun _ h9 => h9) rfl dX5_walker_75 ?_
          refine lv_iload_n hx hb dX5_walker_78 rfl (lv_at hl 1 rfl) ?_
          refine va_iald (D := D) hx hb hK hP 4 0 rfl rfl (And.left h) dX5_walker_79 ?_
          replace h := And.right h
          exact W.iret (v := (S 3 i1.toNatClampNeg)) hx hb hr (fun t ht hW => ⟨⟨_, S, rfl, h, zP_h ht hP⟩, hS.F ht⟩) hS.2.2 dX5_walker_80
        · replace h := And.right h c15_2
          by_cases c15_3 : i2 = (3 : Int32)
          · replace h := And.left h c15_3
            refine lv_tableIn (off := 66) (tgt := 81) hx hb dX5_walker_15 (by rw [c15_3]; decide) (by rw [c15_3]; decide) (by rw [c15_3]; rfl) (by decide) ?_
            refine lv_aload_n hx hb dX5_walker_81 rfl (lv_at hl 0 rfl) ?_
            refine va_get (D := D) (ci := 5) (v := .ref (ah 4)) (C := RX5) (T := TX5) (N := 41) hx hb htB ziX5 hown hK hP 0 rfl rfl 4 (by decide) (htB _ zm_303) (fun _ h9 => h9) rfl dX5_walker_82 ?_
            refine lv_iload_n hx hb dX5_walker_85 rfl (lv_at hl 1 rfl) ?_
            refine va_iald (D := D) hx hb hK hP 5 0 rfl rfl (And.left h) dX5_walker_86 ?_
            replace h := And.right h
            exact W.iret (v := (S 4 i1.toNatClampNeg)) hx hb hr (fun t ht hW => ⟨⟨_, S, rfl, h, zP_h ht hP⟩, hS.F ht⟩) hS.2.2 dX5_walker_87
          · replace h := And.right h c15_3
            by_cases c15_4 : i2 = (4 : Int32)
            · replace h := And.left h c15_4
              refine lv_tableIn (off := 73) (tgt := 88) hx hb dX5_walker_15 (by rw [c15_4]; decide) (by rw [c15_4]; decide) (by rw [c15_4]; rfl) (by decide) ?_
              refine lv_aload_n hx hb dX5_walker_88 rfl (lv_at hl 0 rfl) ?_
              refine va_get (D := D) (ci := 5) (v := .ref (ah 5)) (C := RX5) (T := TX5) (N := 41) hx hb htB ziX5 hown hK hP 0 rfl rfl 5 (by decide) (htB _ zm_304) (fun _ h9 => h9) rfl dX5_walker_89 ?_
              refine lv_iload_n hx hb dX5_walker_92 rfl (lv_at hl 1 rfl) ?_
              refine va_iald (D := D) hx hb hK hP 6 0 rfl rfl (And.left h) dX5_walker_93 ?_
              replace h := And.right h
              exact W.iret (v := (S 5 i1.toNatClampNeg)) hx hb hr (fun t ht hW => ⟨⟨_, S, rfl, h, zP_h ht hP⟩, hS.F ht⟩) hS.2.2 dX5_walker_94
            · replace h := And.right h c15_4
              by_cases c15_5 : i2 = (5 : Int32)
              · replace h := And.left h c15_5
                refine lv_tableIn (off := 80) (tgt := 95) hx hb dX5_walker_15 (by rw [c15_5]; decide) (by rw [c15_5]; decide) (by rw [c15_5]; rfl) (by decide) ?_
                refine lv_aload_n hx hb dX5_walker_95 rfl (lv_at hl 0 rfl) ?_
                refine va_get (D := D) (ci := 5) (v := .ref (ah 6)) (C := RX5) (T := TX5) (N := 41) hx hb htB ziX5 hown hK hP 0 rfl rfl 6 (by decide) (htB _ zm_305) (fun _ h9 => h9) rfl dX5_walker_96 ?_
                refine lv_iload_n hx hb dX5_walker_99 rfl (lv_at hl 1 rfl) ?_
                refine va_iald (D := D) hx hb hK hP 7 0 rfl rfl (And.left h) dX5_walker_100 ?_
                replace h := And.right h
                exact W.iret (v := (S 6 i1.toNatClampNeg)) hx hb hr (fun t ht hW => ⟨⟨_, S, rfl, h, zP_h ht hP⟩, hS.F ht⟩) hS.2.2 dX5_walker_101
              · replace h := And.right h c15_5
                by_cases c15_6 : i2 = (6 : Int32)
                · replace h := And.left h c15_6
                  refine lv_tableIn (off := 87) (tgt := 102) hx hb dX5_walker_15 (by rw [c15_6]; decide) (by rw [c15_6]; decide) (by rw [c15_6]; rfl) (by decide) ?_
                  refine lv_aload_n hx hb dX5_walker_102 rfl (lv_at hl 0 rfl) ?_
                  refine va_get (D := D) (ci := 5) (v := .ref (ah 7)) (C := RX5) (T := TX5) (N := 41) hx hb htB ziX5 hown hK hP 0 rfl rfl 7 (by decide) (htB _ zm_306) (fun _ h9 => h9) rfl dX5_walker_103 ?_
                  refine lv_iload_n hx hb dX5_walker_106 rfl (lv_at hl 1 rfl) ?_
                  refine va_iald (D := D) hx hb hK hP 8 0 rfl rfl (And.left h) dX5_walker_107 ?_
                  replace h := And.right h
                  exact W.iret (v := (S 7 i1.toNatClampNeg)) hx hb hr (fun t ht hW => ⟨⟨_, S, rfl, h, zP_h ht hP⟩, hS.F ht⟩) hS.2.2 dX5_walker_108
                · replace h := And.right h c15_6
                  by_cases c15_7 : i2 = (7 : Int32)
                  · replace h := And.left h c15_7
                    refine lv_tableIn (off := 94) (tgt := 109) hx hb dX5_walker_15 (by rw [c15_7]; decide) (by rw [c15_7]; decide) (by rw [c15_7]; rfl) (by decide) ?_
                    refine lv_aload_n hx hb dX5_walker_109 rfl (lv_at hl 0 rfl) ?_
                    refine lv_iload_n hx hb dX5_walker_110 rfl (lv_at hl 1 rfl) ?_
                    refine zc_r (va_runV (As := [.int i1]) (rest := []) ⟨hx, hb, hml, hown, htB⟩ (c_X5_heldYards l D cy ah S i1 h) (cwV 1 htB (zgV zm_345 zm_347 zm_348 zm_263 zm_346) rfl rfl rfl hd_X5_heldYards ⟨Nat.le_of_ble_eq_true rfl, Nat.le_of_ble_eq_true rfl⟩) ⟨zR_blind, va_recv hK hP (ci := 5) (q0 := 0) rfl rfl, zR_pre hP hK hN⟩ rfl rfl hl.1 rfl (lv_room (Nat.le_of_ble_eq_true rfl)) dX5_walker_111 ⟨Nat.zero_le _, Nat.zero_le _⟩) (fun r111 h => ?_)
                    exact W.iret (v := r111) hx hb hr (fun t ht hW => ⟨⟨_, S, rfl, h, zP_h ht hP⟩, hS.F ht⟩) hS.2.2 dX5_walker_114
                  · replace h := And.right h c15_7
                    have z0 := lv_neT c15_0 (a := 0) rfl
                    have z1 := lv_neT c15_1 (a := 1) rfl
                    have z2 := lv_neT c15_2 (a := 2) rfl
                    have z3 := lv_neT c15_3 (a := 3) rfl
                    have z4 := lv_neT c15_4 (a := 4) rfl
                    have z5 := lv_neT c15_5 (a := 5) rfl
                    have z6 := lv_neT c15_6 (a := 6) rfl
                    have z7 := lv_neT c15_7 (a := 7) rfl
                    refine lv_tableOut (tgt := 115) hx hb dX5_walker_15 (by omega) (by decide) ?_
                    refine lv_aload_n hx hb dX5_walker_115 rfl (lv_at hl 0 rfl) ?_
                    refine lv_bipush (v := (-2 : Int32)) hx hb dX5_walker_116 (by decide) ?_
                    refine zc_if (ws' := fun u => (bX5 ah cy u)) (va_runV (As := [.int (-2 : Int32)]) (rest := []) ⟨hx, hb, hml, hown, htB⟩ (c_X5_no l D cy ah H.size (-2 : Int32) S h) (cwV 1 htB (zgV zm_261 zm_264 zm_265 zm_263 zm_262) rfl rfl rfl hd_X5_no ⟨Nat.le_of_ble_eq_true rfl, Nat.le_of_ble_eq_true rfl⟩) ⟨zM_blind, va_recv hK hP (ci := 5) (q0 := 0) rfl rfl, zM_pre hP hK hN hD⟩ rfl rfl hl.1 rfl (lv_room (Nat.le_of_ble_eq_true rfl)) dX5_walker_118 ⟨Nat.zero_le _, Nat.zero_le _⟩) hS hA hP hD (fun u => rfl) (fun u => rfl) (fun r118 u H locs h hP hD hS => ?_)
                    obtain ⟨S_118, eu⟩ : ∃ z, z = u := ⟨_, rfl⟩
                    subst eu
                    replace hP : va_P D zCl (bX5 ah cy S_118) H := hP
                    replace hD : va_D A (bX5 ah cy S_118) := hD
                    exact W.iret (v := r118) hx hb hr (fun t ht hW => ⟨⟨_, S_118, rfl, h, zP_h ht hP⟩, hS.F ht⟩) hS.2.2 dX5_walker_121
  · replace h := And.left h c5
    refine lv_aload_n hx hb dX5_walker_8 rfl (lv_at hl 0 rfl) ?_
    refine lv_iconst (v := (-1 : Int32)) hx hb dX5_walker_9 (by decide) ?_
    refine zc_if (ws' := fun u => (bX5 ah cy u)) (va_runV (As := [.int (-1 : Int32)]) (rest := []) ⟨hx, hb, hml, hown, htB⟩ (c_X5_no l D cy ah H.size (-1 : Int32) S h) (cwV 1 htB (zgV zm_261 zm_264 zm_265 zm_263 zm_262) rfl rfl rfl hd_X5_no ⟨Nat.le_of_ble_eq_true rfl, Nat.le_of_ble_eq_true rfl⟩) ⟨zM_blind, va_recv hK hP (ci := 5) (q0 := 0) rfl rfl, zM_pre hP hK hN hD⟩ rfl rfl hl.1 rfl (lv_room (Nat.le_of_ble_eq_true rfl)) dX5_walker_10 ⟨Nat.zero_le _, Nat.zero_le _⟩) hS hA hP hD (fun u => rfl) (fun u => rfl) (fun r10 u H locs h hP hD hS => ?_)
    obtain ⟨S_10, eu⟩ : ∃ z, z = u := ⟨_, rfl⟩
    subst eu
    replace hP : va_P D zCl (bX5 ah cy S_10) H := hP
    replace hD : va_D A (bX5 ah cy S_10) := hD
    exact W.iret (v := r10) hx hb hr (fun t ht hW => ⟨⟨_, S_10, rfl, h, zP_h ht hP⟩, hS.F ht⟩) hS.2.2 dX5_walker_13
set_option maxHeartbeats 4000000 in
set_option maxRecDepth 100000 in
theorem c_X5_custom (l : Launch) (D : va_G) (cy : ClassId) (ah : Nat → Nat) (sz : Nat) (i1 : Int32) (S : zT) {Q : Int32 → zT → Prop} (h : wp_X5_custom i1 S Q) : Met l yX5_custom w_X5_custom rm_X5_custom (va_Pc [.ref (ah 99), .int i1] (zM D cy (bX5 ah cy S) sz)) (va_Qi (S := zT) (fun (r : Int32) (u : zT) => Q r u) (fun u t => va_P D zCl ((fun (u : zT) => (bX5 ah cy u)) u) t.heap) (va_A (bX5 ah cy S) sz)) 0 0 (va_A (bX5 ah cy S) sz) := by
  refine zOf_i (by decide) (Nat.le_of_ble_eq_true rfl) ?_
  intro p e s m below meth c ls A H locs hx hb hr hml hown htB hlocks hK hN hP hD hS hA hl
  replace hl : lv_has ls 3 [(0, .ref (ah 99)), (1, .int i1)] := hl
  refine lv_iload_n hx hb dX5_custom_0 rfl (lv_at hl 1 rfl) ?_
  refine lv_iconst (v := (0 : Int32)) hx hb dX5_custom_1 (by decide) ?_
  refine lv_bipush (v := (6 : Int32)) hx hb dX5_custom_2 (by decide) ?_
  have hPc : va_P D zCl ([] : va_W) H := hP.sub [] rfl
  refine zc_r (va_runS (As := [.int i1, .int (0 : Int32), .int (6 : Int32)]) (rest := []) ⟨hx, hb, hml, hown, htB⟩ (c_X5_isIn l D cy  i1 (0 : Int32) (6 : Int32) h) (cwS 3 htB (zgS zm_275 zm_277 zm_263 zm_276) rfl rfl rfl hd_X5_isIn ⟨Nat.le_of_ble_eq_true rfl, Nat.le_of_ble_eq_true rfl⟩) ⟨zR_blind, zR_pre hPc hK hN⟩ rfl rfl hl.1 rfl (lv_room (Nat.le_of_ble_eq_true rfl)) dX5_custom_4 ⟨Nat.zero_le _, Nat.zero_le _⟩) (fun r4 h => ?_)
  refine lv_if_ne (tgt := 17) hx hb dX5_custom_7 (by decide) (fun c7 => ?_) (fun c7 => ?_)
  · replace h := And.right h c7
    refine lv_aload_n hx hb dX5_custom_17 rfl (lv_at hl 0 rfl) ?_
    refine va_get (D := D) (ci := 5) (v := .ref (ah 8)) (C := RX5) (T := TX5) (N := 41) hx hb htB ziX5 hown hK hP 0 rfl rfl 8 (by decide) (htB _ zm_307) (fun _ h9 => h9) rfl dX5_custom_18 ?_
    refine lv_iconst (v := (4 : Int32)) hx hb dX5_custom_21 (by decide) ?_
    refine va_iald (D := D) hx hb hK hP 9 0 rfl rfl (And.left h) dX5_custom_22 ?_
    replace h := And.right h
    refine lv_topi (fun y23 ey23 => ?_)
    replace h := h y23 ey23
    refine lv_istore_n (lv' := [(2, .int y23), (0, .ref (ah 99)), (1, .int i1)]) hx hb dX5_custom_23 rfl hl (by decide) rfl (fun ls hl => ?_)
    refine lv_aload_n hx hb dX5_custom_24 rfl (lv_at hl 1 rfl) ?_
    refine va_get (D := D) (ci := 5) (v := .ref (ah 8)) (C := RX5) (T := TX5) (N := 41) hx hb htB ziX5 hown hK hP 0 rfl rfl 8 (by decide) (htB _ zm_307) (fun _ h9 => h9) rfl dX5_custom_25 ?_
    refine lv_iconst (v := (4 : Int32)) hx hb dX5_custom_28 (by decide) ?_
    refine lv_iload_n hx hb dX5_custom_29 rfl (lv_at hl 2 rfl) ?_
    refine va_iast (D := D) hx hb hK hP hD hS 9 0 rfl rfl (And.left h) dX5_custom_30 (fun H locs hP hD hS => ?_)
    replace h := And.right h
    obtain ⟨S_30, eS_30⟩ : ∃ z : zT, z = (va_up S 8 (upd (S 8) (4 : Int32).toNatClampNeg i1)) := ⟨_, rfl⟩
    replace h := h S_30 eS_30
    replace hP : va_P D zCl (bX5 ah cy S_30) H := by rw [eS_30]; exact hP
    replace hD : va_D A (bX5 ah cy S_30) := by rw [eS_30]; exact hD
    refine lv_iload_n hx hb dX5_custom_31 rfl (lv_at hl 0 rfl) ?_
    exact W.iret (v := y23) hx hb hr (fun t ht hW => ⟨⟨_, S_30, rfl, h, zP_h ht hP⟩, hS.F ht⟩) hS.2.2 dX5_custom_32
  · replace h := And.left h c7
    refine lv_aload_n hx hb dX5_custom_10 rfl (lv_at hl 0 rfl) ?_
    refine lv_bipush (v := (-2 : Int32)) hx hb dX5_custom_11 (by decide) ?_
    refine zc_if (ws' := fun u => (bX5 ah cy u)) (va_runV (As := [.int (-2 : Int32)]) (rest := []) ⟨hx, hb, hml, hown, htB⟩ (c_X5_no l D cy ah H.size (-2 : Int32) S h) (cwV 1 htB (zgV zm_261 zm_264 zm_265 zm_263 zm_262) rfl rfl rfl hd_X5_no ⟨Nat.le_of_ble_eq_true rfl, Nat.le_of_ble_eq_true rfl⟩) ⟨zM_blind, va_recv hK hP (ci := 5) (q0 := 0) rfl rfl, zM_pre hP hK hN hD⟩ rfl rfl hl.1 rfl (lv_room (Nat.le_of_ble_eq_true rfl)) dX5_custom_13 ⟨Nat.zero_le _, Nat.zero_le _⟩) hS hA hP hD (fun u => rfl) (fun u => rfl) (fun r13 u H locs h hP hD hS => ?_)
    obtain ⟨S_13, eu⟩ : ∃ z, z = u := ⟨_, rfl⟩
    subst eu
    replace hP : va_P D zCl (bX5 ah cy S_13) H := hP
    replace hD : va_D A (bX5 ah cy S_13) := hD
    exact W.iret (v := r13) hx hb hr (fun t ht hW => ⟨⟨_, S_13, rfl, h, zP_h ht hP⟩, hS.F ht⟩) hS.2.2 dX5_custom_16
set_option maxHeartbeats 4000000 in
set_option maxRecDepth 100000 in
theorem c_X5_farOf (l : Launch) (D : va_G) (cy : ClassId) (ah : Nat → Nat) (S : zT) (i1 : Int32) (i2 : Int32) (i3 : Int32) {Q : Int32 → Prop} (h : wp_X5_farOf S i1 i2 i3 Q) : Met l yX5_farOf w_X5_farOf rm_X5_farOf (va_Pc [.ref (ah 99), .int i1, .int i2, .int i3] (zR D cy (bX5 ah cy S))) (vp_Si Q) 0 0 (fun _ => False) := by
  refine zOf_r (by decide) (Nat.le_of_ble_eq_true rfl) ?_
  intro p e s m below meth c ls hx hb hr hml hown htB hlocks hK hN hP hl
  replace hl : lv_has ls 7 [(0, .ref (ah 99)), (1, .int i1), (2, .int i2), (3, .int i3)] := hl
  have L157 : wpb_X5_farOf_157 S i1 i2 i3 Q → ∀ ls : Array Slot, lv_has ls 7 [(0, .ref (ah 99))] → W p l e rm_X5_farOf s m ([.ref (ah 99), .int i1, .int i2, .int i3] : List Value).toArray below meth c s.heap [] 0 0 (MQ below (vp_Si Q) ([.ref (ah 99), .int i1, .int i2, .int i3] : List Value).toArray s 0 0 (fun _ => False)) (F0 m 157 ls []) := by
    intro  h ls hl
    refine lv_iconst (v := (0 : Int32)) hx hb dX5_farOf_157 (by decide) ?_
    refine lv_goto (tgt := 163) hx hb dX5_farOf_158 (by decide) ?_
    exact W.iret (v := (0 : Int32)) hx hb hr (fun t ht hW => ⟨_, rfl, h, ht⟩) (fun q hq => by cases hq) dX5_farOf_163
  have L142 : ∀ (x6 : Int32), wpb_X5_farOf_142 S i1 i2 i3 Q x6 → ∀ ls : Array Slot, lv_has ls 7 [(0, .ref (ah 99)), (1, .int i1), (6, .int x6)] → W p l e rm_X5_farOf s m ([.ref (ah 99), .int i1, .int i2, .int i3] : List Value).toArray below meth c s.heap [] 0 0 (MQ below (vp_Si Q) ([.ref (ah 99), .int i1, .int i2, .int i3] : List Value).toArray s 0 0 (fun _ => False)) (F0 m 142 ls []) := by
    intro x6 h ls hl
    refine lv_aload_n hx hb dX5_farOf_142 rfl (lv_at hl 0 rfl) ?_
    refine va_get (D := D) (ci := 5) (v := .ref (ah 1)) (C := RX5) (T := TX5) (N := 41) hx hb htB ziX5 hown hK hP 0 rfl rfl 1 (by decide) (htB _ zm_300) (fun _ h9 => h9) rfl dX5_farOf_143 ?_
    refine lv_iload_n hx hb dX5_farOf_146 rfl (lv_at hl 1 rfl) ?_
    refine va_iald (D := D) hx hb hK hP 2 0 rfl rfl (And.left h) dX5_farOf_147 ?_
    replace h := And.right h
    refine lv_iconst (v := (5 : Int32)) hx hb dX5_farOf_148 (by decide) ?_
    refine lv_icmp_eq (tgt := 157) hx hb dX5_farOf_149 (by decide) (fun c149 => ?_) (fun c149 => ?_)
    · replace h := And.left h c149
      exact L157  h ls (lv_sub hl [0] rfl)
    · replace h := And.right h c149
      refine lv_iload hx hb dX5_farOf_152 (lv_at hl 2 rfl) ?_
      refine lv_if_ge (tgt := 161) hx hb dX5_farOf_154 (by decide) (fun c154 => ?_) (fun c154 => ?_)
      · replace h := And.left h c154
        refine lv_iload hx hb dX5_farOf_161 (lv_at hl 2 rfl) ?_
        exact W.iret (v := x6) hx hb hr (fun t ht hW => ⟨_, rfl, h, ht⟩) (fun q hq => by cases hq) dX5_farOf_163
      · replace h := And.right h c154
        exact L157  h ls (lv_sub hl [0] rfl)
  have L116 : ∀ (t0 : Int32), wpb_X5_farOf_116 S i1 i2 i3 Q t0 → ∀ ls : Array Slot, lv_has ls 7 [(0, .ref (ah 99)), (1, .int i1)] → W p l e rm_X5_farOf s m ([.ref (ah 99), .int i1, .int i2, .int i3] : List Value).toArray below meth c s.heap [] 0 0 (MQ below (vp_Si Q) ([.ref (ah 99), .int i1, .int i2, .int i3] : List Value).toArray s 0 0 (fun _ => False)) (F0 m 116 ls [.int t0]) := by
    intro t0 h ls hl
    refine lv_istore (lv' := [(6, .int t0), (0, .ref (ah 99)), (1, .int i1)]) hx hb dX5_farOf_116 hl (by decide) rfl (fun ls hl => ?_)
    refine lv_goto (tgt := 142) hx hb dX5_farOf_118 (by decide) ?_
    exact L142 t0 h ls (lv_sub hl [1, 2, 0] rfl)
  refine lv_aload_n hx hb dX5_farOf_0 rfl (lv_at hl 0 rfl) ?_
  refine va_get (D := D) (ci := 5) (v := .ref (ah 8)) (C := RX5) (T := TX5) (N := 41) hx hb htB ziX5 hown hK hP 0 rfl rfl 8 (by decide) (htB _ zm_307) (fun _ h9 => h9) rfl dX5_farOf_1 ?_
  refine lv_iconst (v := (3 : Int32)) hx hb dX5_farOf_4 (by decide) ?_
  refine va_iald (D := D) hx hb hK hP 9 0 rfl rfl (And.left h) dX5_farOf_5 ?_
  replace h := And.right h
  refine lv_topi (fun y6 ey6 => ?_)
  replace h := h y6 ey6
  refine lv_istore (lv' := [(4, .int y6), (0, .ref (ah 99)), (1, .int i1), (2, .int i2), (3, .int i3)]) hx hb dX5_farOf_6 hl (by decide) rfl (fun ls hl => ?_)
  refine lv_iload hx hb dX5_farOf_8 (lv_at hl 0 rfl) ?_
  refine lv_iconst (v := (4 : Int32)) hx hb dX5_farOf_10 (by decide) ?_
  refine lv_aload_n hx hb dX5_farOf_11 rfl (lv_at hl 1 rfl) ?_
  refine va_get (D := D) (ci := 5) (v := .ref (ah 6)) (C := RX5) (T := TX5) (N := 41) hx hb htB ziX5 hown hK hP 0 rfl rfl 6 (by decide) (htB _ zm_305) (fun _ h9 => h9) rfl dX5_farOf_12 ?_
  refine lv_iload_n hx hb dX5_farOf_15 rfl (lv_at hl 3 rfl) ?_
  refine va_iald (D := D) hx hb hK hP 7 0 rfl rfl (And.left h) dX5_farOf_16 ?_
  replace h := And.right h
  refine lv_imul hx hb dX5_farOf_17 ?_
  refine lv_iadd hx hb dX5_farOf_18 ?_
  refine lv_topi (fun y19 ey19 => ?_)
  replace h := h y19 ey19
  refine lv_istore (lv' := [(5, .int y19), (4, .int y6), (0, .ref (ah 99)), (1, .int i1), (2, .int i2), (3, .int i3)]) hx hb dX5_farOf_19 hl (by decide) rfl (fun ls hl => ?_)
  refine lv_iconst (v := (0 : Int32)) hx hb dX5_farOf_21 (by decide) ?_
  refine lv_istore (lv' := [(6, .int (0 : Int32)), (5, .int y19), (4, .int y6), (0, .ref (ah 99)), (1, .int i1), (2, .int i2), (3, .int i3)]) hx hb dX5_farOf_22 hl (by decide) rfl (fun ls hl => ?_)
  refine lv_aload_n hx hb dX5_farOf_24 rfl (lv_at hl 3 rfl) ?_
  refine va_get (D := D) (ci := 5) (v := .ref (ah 8)) (C := RX5) (T := TX5) (N := 41) hx hb htB ziX5 hown hK hP 0 rfl rfl 8 (by decide) (htB _ zm_307) (fun _ h9 => h9) rfl dX5_farOf_25 ?_
  refine lv_iconst (v := (4 : Int32)) hx hb dX5_farOf_28 (by decide) ?_
  refine va_iald (D := D) hx hb hK hP 9 0 rfl rfl (And.left h) dX5_farOf_29 ?_
  replace h := And.right h
  by_cases c30_0 : (S 8 (4 : Int32).toNatClampNeg) = (1 : Int32)
  · replace h := And.left h c30_0
    refine lv_tableIn (off := 38) (tgt := 68) hx hb dX5_farOf_30 (by rw [c30_0]; decide) (by rw [c30_0]; decide) (by rw [c30_0]; rfl) (by decide) ?_
    refine lv_iload hx hb dX5_farOf_68 (lv_at hl 2 rfl) ?_
    refine lv_istore (lv' := [(6, .int y6), (5, .int y19), (4, .int y6), (0, .ref (ah 99)), (1, .int i1), (2, .int i2), (3, .int i3)]) hx hb dX5_farOf_70 hl (by decide) rfl (fun ls hl => ?_)
    refine lv_goto (tgt := 142) hx hb dX5_farOf_72 (by decide) ?_
    exact L142 y6 h ls (lv_sub hl [3, 4, 0] rfl)
  · replace h := And.right h c30_0
    by_cases c30_1 : (S 8 (4 : Int32).toNatClampNeg) = (2 : Int32)
    · replace h := And.left h c30_1
      refine lv_tableIn (off := 45) (tgt := 75) hx hb dX5_farOf_30 (by rw [c30_1]; decide) (by rw [c30_1]; decide) (by rw [c30_1]; rfl) (by decide) ?_
      refine lv_iload hx hb dX5_farOf_75 (lv_at hl 1 rfl) ?_
      refine lv_istore (lv' := [(6, .int y19), (5, .int y19), (4, .int y6), (0, .ref (ah 99)), (1, .int i1), (2, .int i2), (3, .int i3)]) hx hb dX5_farOf_77 hl (by decide) rfl (fun ls hl => ?_)
      refine lv_goto (tgt := 142) hx hb dX5_farOf_79 (by decide) ?_
      exact L142 y19 h ls (lv_sub hl [3, 4, 0] rfl)
    · replace h := And.right h c30_1
      by_cases c30_2 : (S 8 (4 : Int32).toNatClampNeg) = (3 : Int32)
      · replace h := And.left h c30_2
        refine lv_tableIn (off := 52) (tgt := 82) hx hb dX5_farOf_30 (by rw [c30_2]; decide) (by rw [c30_2]; decide) (by rw [c30_2]; rfl) (by decide) ?_
        refine lv_iload hx hb dX5_farOf_82 (lv_at hl 2 rfl) ?_
        refine lv_iconst (v := (2 : Int32)) hx hb dX5_farOf_84 (by decide) ?_
        refine lv_aload_n hx hb dX5_farOf_85 rfl (lv_at hl 3 rfl) ?_
        refine va_get (D := D) (ci := 5) (v := .ref (ah 5)) (C := RX5) (T := TX5) (N := 41) hx hb htB ziX5 hown hK hP 0 rfl rfl 5 (by decide) (htB _ zm_304) (fun _ h9 => h9) rfl dX5_farOf_86 ?_
        refine lv_iload_n hx hb dX5_farOf_89 rfl (lv_at hl 5 rfl) ?_
        refine va_iald (D := D) hx hb hK hP 6 0 rfl rfl (And.left h) dX5_farOf_90 ?_
        replace h := And.right h
        refine lv_imul hx hb dX5_farOf_91 ?_
        refine lv_iadd hx hb dX5_farOf_92 ?_
        refine lv_topi (fun y93 ey93 => ?_)
        replace h := h y93 ey93
        refine lv_istore (lv' := [(6, .int y93), (5, .int y19), (4, .int y6), (0, .ref (ah 99)), (1, .int i1), (2, .int i2), (3, .int i3)]) hx hb dX5_farOf_93 hl (by decide) rfl (fun ls hl => ?_)
        refine lv_goto (tgt := 142) hx hb dX5_farOf_95 (by decide) ?_
        exact L142 y93 h ls (lv_sub hl [3, 4, 0] rfl)
      · replace h := And.right h c30_2
        by_cases c30_3 : (S 8 (4 : Int32).toNatClampNeg) = (4 : Int32)
        · replace h := And.left h c30_3
          refine lv_tableIn (off := 68) (tgt := 98) hx hb dX5_farOf_30 (by rw [c30_3]; decide) (by rw [c30_3]; decide) (by rw [c30_3]; rfl) (by decide) ?_
          refine lv_bipush (v := (40 : Int32)) hx hb dX5_farOf_98 (by decide) ?_
          refine lv_istore (lv' := [(6, .int (40 : Int32)), (5, .int y19), (4, .int y6), (0, .ref (ah 99)), (1, .int i1), (2, .int i2), (3, .int i3)]) hx hb dX5_farOf_100 hl (by decide) rfl (fun ls hl => ?_)
          refine lv_goto (tgt := 142) hx hb dX5_farOf_102 (by decide) ?_
          exact L142 (40 : Int32) h ls (lv_sub hl [3, 4, 0] rfl)
        · replace h := And.right h c30_3
          by_cases c30_4 : (S 8 (4 : Int32).toNatClampNeg) = (5 : Int32)
          · replace h := And.left h c30_4
            refine lv_tableIn (off := 75) (tgt := 105) hx hb dX5_farOf_30 (by rw [c30_4]; decide) (by rw [c30_4]; decide) (by rw [c30_4]; rfl) (by decide) ?_
            refine lv_iload_n hx hb dX5_farOf_105 rfl (lv_at hl 6 rfl) ?_
            refine lv_iconst (v := (1 : Int32)) hx hb dX5_farOf_106 (by decide) ?_
            refine lv_icmp_ne (tgt := 115) hx hb dX5_farOf_107 (by decide) (fun c107 => ?_) (fun c107 => ?_)
            · replace h := And.right h c107
              refine lv_iconst (v := (0 : Int32)) hx hb dX5_farOf_115 (by decide) ?_
              exact L116 (0 : Int32) h ls (lv_sub hl [3, 4] rfl)
            · replace h := And.left h c107
              refine lv_iload hx hb dX5_farOf_110 (lv_at hl 2 rfl) ?_
              refine lv_goto (tgt := 116) hx hb dX5_farOf_112 (by decide) ?_
              exact L116 y6 h ls (lv_sub hl [3, 4] rfl)
          · replace h := And.right h c30_4
            by_cases c30_5 : (S 8 (4 : Int32).toNatClampNeg) = (6 : Int32)
            · replace h := And.left h c30_5
              refine lv_tableIn (off := 91) (tgt := 121) hx hb dX5_farOf_30 (by rw [c30_5]; decide) (by rw [c30_5]; decide) (by rw [c30_5]; rfl) (by decide) ?_
              refine lv_iload hx hb dX5_farOf_121 (lv_at hl 1 rfl) ?_
              refine lv_aload_n hx hb dX5_farOf_123 rfl (lv_at hl 3 rfl) ?_
              refine va_get (D := D) (ci := 5) (v := .ref (ah 7)) (C := RX5) (T := TX5) (N := 41) hx hb htB ziX5 hown hK hP 0 rfl rfl 7 (by decide) (htB _ zm_306) (fun _ h9 => h9) rfl dX5_farOf_124 ?_
              refine lv_iload_n hx hb dX5_farOf_127 rfl (lv_at hl 5 rfl) ?_
              refine va_iald (D := D) hx hb hK hP 8 0 rfl rfl (And.left h) dX5_farOf_128 ?_
              replace h := And.right h
              refine lv_iadd hx hb dX5_farOf_129 ?_
              refine lv_aload_n hx hb dX5_farOf_130 rfl (lv_at hl 3 rfl) ?_
              refine va_get (D := D) (ci := 5) (v := .ref (ah 7)) (C := RX5) (T := TX5) (N := 41) hx hb htB ziX5 hown hK hP 0 rfl rfl 7 (by decide) (htB _ zm_306) (fun _ h9 => h9) rfl dX5_farOf_131 ?_
              refine lv_iload_n hx hb dX5_farOf_134 rfl (lv_at hl 4 rfl) ?_
              refine va_iald (D := D) hx hb hK hP 8 0 rfl rfl (And.left h) dX5_farOf_135 ?_
              replace h := And.right h
              refine lv_isub hx hb dX5_farOf_136 ?_
              refine lv_topi (fun y137 ey137 => ?_)
              replace h := h y137 ey137
              refine lv_istore (lv' := [(6, .int y137), (5, .int y19), (4, .int y6), (0, .ref (ah 99)), (1, .int i1), (2, .int i2), (3, .int i3)]) hx hb dX5_farOf_137 hl (by decide) rfl (fun ls hl => ?_)
              refine lv_goto (tgt := 142) hx hb dX5_farOf_139 (by decide) ?_
              exact L142 y137 h ls (lv_sub hl [3, 4, 0] rfl)
            · replace h := And.right h c30_5
              have z0 := lv_neT c30_0 (a := 1) rfl
              have z1 := lv_neT c30_1 (a := 2) rfl
              have z2 := lv_neT c30_2 (a := 3) rfl
              have z3 := lv_neT c30_3 (a := 4) rfl
              have z4 := lv_neT c30_4 (a := 5) rfl
              have z5 := lv_neT c30_5 (a := 6) rfl
              refine lv_tableOut (tgt := 142) hx hb dX5_farOf_30 (by omega) (by decide) ?_
              exact L142 (0 : Int32) h ls (lv_sub hl [3, 4, 0] rfl)
set_option maxHeartbeats 4000000 in
set_option maxRecDepth 100000 in
theorem c_X5_areTwo (l : Launch) (D : va_G) (cy : ClassId) (ah : Nat → Nat) (S : zT) (i1 : Int32) (i2 : Int32) {Q : Int32 → Prop} (h : wp_X5_areTwo S i1 i2 Q) : Met l yX5_areTwo w_X5_areTwo rm_X5_areTwo (va_Pc [.ref (ah 99), .int i1, .int i2] (zR D cy (bX5 ah cy S))) (vp_Si Q) 0 0 (fun _ => False) := by
  refine zOf_r (by decide) (Nat.le_of_ble_eq_true rfl) ?_
  intro p e s m below meth c ls hx hb hr hml hown htB hlocks hK hN hP hl
  replace hl : lv_has ls 3 [(0, .ref (ah 99)), (1, .int i1), (2, .int i2)] := hl
  refine lv_aload_n hx hb dX5_areTwo_0 rfl (lv_at hl 0 rfl) ?_
  refine lv_iload_n hx hb dX5_areTwo_1 rfl (lv_at hl 1 rfl) ?_
  refine zc_r (va_runV (As := [.int i1]) (rest := []) ⟨hx, hb, hml, hown, htB⟩ (c_X5_isWalker l D cy ah S i1 h) (cwV 1 htB (zgV zm_341 zm_343 zm_344 zm_263 zm_342) rfl rfl rfl hd_X5_isWalker ⟨Nat.le_of_ble_eq_true rfl, Nat.le_of_ble_eq_true rfl⟩) ⟨zR_blind, va_recv hK hP (ci := 5) (q0 := 0) rfl rfl, zR_pre hP hK hN⟩ rfl rfl hl.1 rfl (lv_room (Nat.le_of_ble_eq_true rfl)) dX5_areTwo_2 ⟨Nat.zero_le _, Nat.zero_le _⟩) (fun r2 h => ?_)
  refine lv_if_eq (tgt := 25) hx hb dX5_areTwo_5 (by decide) (fun c5 => ?_) (fun c5 => ?_)
  · replace h := And.left h c5
    refine lv_iconst (v := (0 : Int32)) hx hb dX5_areTwo_25 (by decide) ?_
    exact W.zret (v := (0 : Int32)) hx hb hr rfl (fun t ht hW => ⟨_, rfl, h, ht⟩) (fun q hq => by cases hq) dX5_areTwo_26
  · replace h := And.right h c5
    refine lv_aload_n hx hb dX5_areTwo_8 rfl (lv_at hl 0 rfl) ?_
    refine lv_iload_n hx hb dX5_areTwo_9 rfl (lv_at hl 2 rfl) ?_
    refine zc_r (va_runV (As := [.int i2]) (rest := []) ⟨hx, hb, hml, hown, htB⟩ (c_X5_isWalker l D cy ah S i2 h) (cwV 1 htB (zgV zm_341 zm_343 zm_344 zm_263 zm_342) rfl rfl rfl hd_X5_isWalker ⟨Nat.le_of_ble_eq_true rfl, Nat.le_of_ble_eq_true rfl⟩) ⟨zR_blind, va_recv hK hP (ci := 5) (q0 := 0) rfl rfl, zR_pre hP hK hN⟩ rfl rfl hl.1 rfl (lv_room (Nat.le_of_ble_eq_true rfl)) dX5_areTwo_10 ⟨Nat.zero_le _, Nat.zero_le _⟩) (fun r10 h => ?_)
    refine lv_if_eq (tgt := 25) hx hb dX5_areTwo_13 (by decide) (fun c13 => ?_) (fun c13 => ?_)
    · replace h := And.left h c13
      refine lv_iconst (v := (0 : Int32)) hx hb dX5_areTwo_25 (by decide) ?_
      exact W.zret (v := (0 : Int32)) hx hb hr rfl (fun t ht hW => ⟨_, rfl, h, ht⟩) (fun q hq => by cases hq) dX5_areTwo_26
    · replace h := And.right h c13
      refine lv_iload_n hx hb dX5_areTwo_16 rfl (lv_at hl 1 rfl) ?_
      refine lv_iload_n hx hb dX5_areTwo_17 rfl (lv_at hl 2 rfl) ?_
      refine lv_icmp_eq (tgt := 25) hx hb dX5_areTwo_18 (by decide) (fun c18 => ?_) (fun c18 => ?_)
      · replace h := And.left h c18
        refine lv_iconst (v := (0 : Int32)) hx hb dX5_areTwo_25 (by decide) ?_
        exact W.zret (v := (0 : Int32)) hx hb hr rfl (fun t ht hW => ⟨_, rfl, h, ht⟩) (fun q hq => by cases hq) dX5_areTwo_26
      · replace h := And.right h c18
        refine lv_iconst (v := (1 : Int32)) hx hb dX5_areTwo_21 (by decide) ?_
        refine lv_goto (tgt := 26) hx hb dX5_areTwo_22 (by decide) ?_
        exact W.zret (v := (1 : Int32)) hx hb hr rfl (fun t ht hW => ⟨_, rfl, h, ht⟩) (fun q hq => by cases hq) dX5_areTwo_26
set_option maxHeartbeats 4000000 in
set_option maxRecDepth 100000 in
theorem c_X5_far (l : Launch) (D : va_G) (cy : ClassId) (ah : Nat → Nat) (sz : Nat) (i1 : Int32) (i2 : Int32) (i3 : Int32) (S : zT) {Q : Int32 → zT → Prop} (h : wp_X5_far i1 i2 i3 S Q) : Met l yX5_far w_X5_far rm_X5_far (va_Pc [.ref (ah 99), .int i1, .int i2, .int i3] (zM D cy (bX5 ah cy S) sz)) (va_Qi (S := zT) (fun (r : Int32) (u : zT) => Q r u) (fun u t => va_P D zCl ((fun (u : zT) => (bX5 ah cy u)) u) t.heap) (va_A (bX5 ah cy S) sz)) 0 0 (va_A (bX5 ah cy S) sz) := by
  refine zOf_i (by decide) (Nat.le_of_ble_eq_true rfl) ?_
  intro p e s m below meth c ls A H locs hx hb hr hml hown htB hlocks hK hN hP hD hS hA hl
  replace hl : lv_has ls 4 [(0, .ref (ah 99)), (1, .int i1), (2, .int i2), (3, .int i3)] := hl
  refine lv_aload_n hx hb dX5_far_0 rfl (lv_at hl 0 rfl) ?_
  refine lv_iload_n hx hb dX5_far_1 rfl (lv_at hl 1 rfl) ?_
  refine lv_iload_n hx hb dX5_far_2 rfl (lv_at hl 2 rfl) ?_
  refine zc_r (va_runV (As := [.int i1, .int i2]) (rest := []) ⟨hx, hb, hml, hown, htB⟩ (c_X5_areTwo l D cy ah S i1 i2 h) (cwV 2 htB (zgV zm_349 zm_351 zm_352 zm_263 zm_350) rfl rfl rfl hd_X5_areTwo ⟨Nat.le_of_ble_eq_true rfl, Nat.le_of_ble_eq_true rfl⟩) ⟨zR_blind, va_recv hK hP (ci := 5) (q0 := 0) rfl rfl, zR_pre hP hK hN⟩ rfl rfl hl.1 rfl (lv_room (Nat.le_of_ble_eq_true rfl)) dX5_far_3 ⟨Nat.zero_le _, Nat.zero_le _⟩) (fun r3 h => ?_)
  refine lv_if_ne (tgt := 15) hx hb dX5_far_6 (by decide) (fun c6 => ?_) (fun c6 => ?_)
  · replace h := And.right h c6
    refine lv_iload_n hx hb dX5_far_15 rfl (lv_at hl 3 rfl) ?_
    refine lv_iconst (v := (0 : Int32)) hx hb dX5_far_16 (by decide) ?_
    refine lv_iconst (v := (1 : Int32)) hx hb dX5_far_17 (by decide) ?_
    have hPc : va_P D zCl ([] : va_W) H := hP.sub [] rfl
    refine zc_r (va_runS (As := [.int i3, .int (0 : Int32), .int (1 : Int32)]) (rest := []) ⟨hx, hb, hml, hown, htB⟩ (c_X5_isIn l D cy  i3 (0 : Int32) (1 : Int32) h) (cwS 3 htB (zgS zm_275 zm_277 zm_263 zm_276) rfl rfl rfl hd_X5_isIn ⟨Nat.le_of_ble_eq_true rfl, Nat.le_of_ble_eq_true rfl⟩) ⟨zR_blind, zR_pre hPc hK hN⟩ rfl rfl hl.1 rfl (lv_room (Nat.le_of_ble_eq_true rfl)) dX5_far_18 ⟨Nat.zero_le _, Nat.zero_le _⟩) (fun r18 h => ?_)
    refine lv_if_eq (tgt := 34) hx hb dX5_far_21 (by decide) (fun c21 => ?_) (fun c21 => ?_)
    · replace h := And.left h c21
      refine lv_aload_n hx hb dX5_far_34 rfl (lv_at hl 0 rfl) ?_
      refine lv_bipush (v := (-2 : Int32)) hx hb dX5_far_35 (by decide) ?_
      refine zc_if (ws' := fun u => (bX5 ah cy u)) (va_runV (As := [.int (-2 : Int32)]) (rest := []) ⟨hx, hb, hml, hown, htB⟩ (c_X5_no l D cy ah H.size (-2 : Int32) S h) (cwV 1 htB (zgV zm_261 zm_264 zm_265 zm_263 zm_262) rfl rfl rfl hd_X5_no ⟨Nat.le_of_ble_eq_true rfl, Nat.le_of_ble_eq_true rfl⟩) ⟨zM_blind, va_recv hK hP (ci := 5) (q0 := 0) rfl rfl, zM_pre hP hK hN hD⟩ rfl rfl hl.1 rfl (lv_room (Nat.le_of_ble_eq_true rfl)) dX5_far_37 ⟨Nat.zero_le _, Nat.zero_le _⟩) hS hA hP hD (fun u => rfl) (fun u => rfl) (fun r37 u H locs h hP hD hS => ?_)
      obtain ⟨S_37, eu⟩ : ∃ z, z = u := ⟨_, rfl⟩
      subst eu
      replace hP : va_P D zCl (bX5 ah cy S_37) H := hP
      replace hD : va_D A (bX5 ah cy S_37) := hD
      exact W.iret (v := r37) hx hb hr (fun t ht hW => ⟨⟨_, S_37, rfl, h, zP_h ht hP⟩, hS.F ht⟩) hS.2.2 dX5_far_40
    · replace h := And.right h c21
      refine lv_aload_n hx hb dX5_far_24 rfl (lv_at hl 0 rfl) ?_
      refine lv_iload_n hx hb dX5_far_25 rfl (lv_at hl 1 rfl) ?_
      refine lv_iload_n hx hb dX5_far_26 rfl (lv_at hl 2 rfl) ?_
      refine lv_iload_n hx hb dX5_far_27 rfl (lv_at hl 3 rfl) ?_
      refine zc_r (va_runV (As := [.int i1, .int i2, .int i3]) (rest := []) ⟨hx, hb, hml, hown, htB⟩ (c_X5_farOf l D cy ah S i1 i2 i3 h) (cwV 3 htB (zgV zm_353 zm_355 zm_356 zm_263 zm_354) rfl rfl rfl hd_X5_farOf ⟨Nat.le_of_ble_eq_true rfl, Nat.le_of_ble_eq_true rfl⟩) ⟨zR_blind, va_recv hK hP (ci := 5) (q0 := 0) rfl rfl, zR_pre hP hK hN⟩ rfl rfl hl.1 rfl (lv_room (Nat.le_of_ble_eq_true rfl)) dX5_far_28 ⟨Nat.zero_le _, Nat.zero_le _⟩) (fun r28 h => ?_)
      refine lv_goto (tgt := 40) hx hb dX5_far_31 (by decide) ?_
      exact W.iret (v := r28) hx hb hr (fun t ht hW => ⟨⟨_, S, rfl, h, zP_h ht hP⟩, hS.F ht⟩) hS.2.2 dX5_far_40
  · replace h := And.left h c6
    refine lv_aload_n hx hb dX5_far_9 rfl (lv_at hl 0 rfl) ?_
    refine lv_iconst (v := (-1 : Int32)) hx hb dX5_far_10 (by decide) ?_
    refine zc_if (ws' := fun u => (bX5 ah cy u)) (va_runV (As := [.int (-1 : Int32)]) (rest := []) ⟨hx, hb, hml, hown, htB⟩ (c_X5_no l D cy ah H.size (-1 : Int32) S h) (cwV 1 htB (zgV zm_261 zm_264 zm_265 zm_263 zm_262) rfl rfl rfl hd_X5_no ⟨Nat.le_of_ble_eq_true rfl, Nat.le_of_ble_eq_true rfl⟩) ⟨zM_blind, va_recv hK hP (ci := 5) (q0 := 0) rfl rfl, zM_pre hP hK hN hD⟩ rfl rfl hl.1 rfl (lv_room (Nat.le_of_ble_eq_true rfl)) dX5_far_11 ⟨Nat.zero_le _, Nat.zero_le _⟩) hS hA hP hD (fun u => rfl) (fun u => rfl) (fun r11 u H locs h hP hD hS => ?_)
    obtain ⟨S_11, eu⟩ : ∃ z, z = u := ⟨_, rfl⟩
    subst eu
    replace hP : va_P D zCl (bX5 ah cy S_11) H := hP
    replace hD : va_D A (bX5 ah cy S_11) := hD
    exact W.iret (v := r11) hx hb hr (fun t ht hW => ⟨⟨_, S_11, rfl, h, zP_h ht hP⟩, hS.F ht⟩) hS.2.2 dX5_far_14
set_option maxHeartbeats 4000000 in
set_option maxRecDepth 100000 in
theorem c_X5_upBy (l : Launch) (D : va_G) (cy : ClassId)  (i0 : Int32) (i1 : Int32) {Q : Int32 → Prop} (h : wp_X5_upBy i0 i1 Q) : Met l yX5_upBy w_X5_upBy rm_X5_upBy (va_Pc [.int i0, .int i1] (zR D cy ([] : va_W))) (vp_Si Q) 0 0 (fun _ => False) := by
  refine zOf_r (by decide) (Nat.le_of_ble_eq_true rfl) ?_
  intro p e s m below meth c ls hx hb hr hml hown htB hlocks hK hN hP hl
  replace hl : lv_has ls 2 [(0, .int i0), (1, .int i1)] := hl
  refine lv_iload_n hx hb dX5_upBy_0 rfl (lv_at hl 0 rfl) ?_
  refine lv_iload_n hx hb dX5_upBy_1 rfl (lv_at hl 1 rfl) ?_
  refine lv_iadd hx hb dX5_upBy_2 ?_
  refine lv_iconst (v := (1 : Int32)) hx hb dX5_upBy_3 (by decide) ?_
  refine lv_isub hx hb dX5_upBy_4 ?_
  refine lv_iload_n hx hb dX5_upBy_5 rfl (lv_at hl 1 rfl) ?_
  refine lv_idiv hx hb dX5_upBy_6 (And.left h) ?_
  replace h := And.right h
  exact W.iret (v := (((i0 + i1) - (1 : Int32)) / i1)) hx hb hr (fun t ht hW => ⟨_, rfl, h, ht⟩) (fun q hq => by cases hq) dX5_upBy_7
set_option maxHeartbeats 4000000 in
set_option maxRecDepth 100000 in
theorem c_X5_thereOf (l : Launch) (D : va_G) (cy : ClassId) (ah : Nat → Nat) (S : zT) (i1 : Int32) {Q : Int32 → Prop} (h : wp_X5_thereOf S i1 Q) : Met l yX5_thereOf w_X5_thereOf rm_X5_thereOf (va_Pc [.ref (ah 99), .int i1] (zR D cy (bX5 ah cy S))) (vp_Si Q) 0 0 (fun _ => False) := by
  refine zOf_r (by decide) (Nat.le_of_ble_eq_true rfl) ?_
  intro p e s m below meth c ls hx hb hr hml hown htB hlocks hK hN hP hl
  replace hl : lv_has ls 2 [(0, .ref (ah 99)), (1, .int i1)] := hl
  refine lv_aload_n hx hb dX5_thereOf_0 rfl (lv_at hl 0 rfl) ?_
  refine va_get (D := D) (ci := 5) (v := .ref (ah 2)) (C := RX5) (T := TX5) (N := 41) hx hb htB ziX5 hown hK hP 0 rfl rfl 2 (by decide) (htB _ zm_301) (fun _ h9 => h9) rfl dX5_thereOf_1 ?_
  refine lv_iload_n hx hb dX5_thereOf_4 rfl (lv_at hl 1 rfl) ?_
  refine va_iald (D := D) hx hb hK hP 3 0 rfl rfl (And.left h) dX5_thereOf_5 ?_
  replace h := And.right h
  refine lv_aload_n hx hb dX5_thereOf_6 rfl (lv_at hl 0 rfl) ?_
  refine va_get (D := D) (ci := 5) (v := .ref (ah 3)) (C := RX5) (T := TX5) (N := 41) hx hb htB ziX5 hown hK hP 0 rfl rfl 3 (by decide) (htB _ zm_302) (fun _ h9 => h9) rfl dX5_thereOf_7 ?_
  refine lv_iload_n hx hb dX5_thereOf_10 rfl (lv_at hl 1 rfl) ?_
  refine va_iald (D := D) hx hb hK hP 4 0 rfl rfl (And.left h) dX5_thereOf_11 ?_
  replace h := And.right h
  refine lv_aload_n hx hb dX5_thereOf_12 rfl (lv_at hl 0 rfl) ?_
  refine va_get (D := D) (ci := 5) (v := .ref (ah 4)) (C := RX5) (T := TX5) (N := 41) hx hb htB ziX5 hown hK hP 0 rfl rfl 4 (by decide) (htB _ zm_303) (fun _ h9 => h9) rfl dX5_thereOf_13 ?_
  refine lv_iload_n hx hb dX5_thereOf_16 rfl (lv_at hl 1 rfl) ?_
  refine va_iald (D := D) hx hb hK hP 5 0 rfl rfl (And.left h) dX5_thereOf_17 ?_
  replace h := And.right h
  have hPc : va_P D zCl ([] : va_W) s.heap := hP.sub [] rfl
  refine zc_r (va_runS (As := [.int (S 3 i1.toNatClampNeg), .int (S 4 i1.toNatClampNeg)]) (rest := [.int (S 2 i1.toNatClampNeg)]) ⟨hx, hb, hml, hown, htB⟩ (c_X5_upBy l D cy  (S 3 i1.toNatClampNeg) (S 4 i1.toNatClampNeg) h) (cwS 2 htB (zgS zm_357 zm_359 zm_263 zm_358) rfl rfl rfl hd_X5_upBy ⟨Nat.le_of_ble_eq_true rfl, Nat.le_of_ble_eq_true rfl⟩) ⟨zR_blind, zR_pre hPc hK hN⟩ rfl rfl hl.1 rfl (lv_room (Nat.le_of_ble_eq_true rfl)) dX5_thereOf_18 ⟨Nat.zero_le _, Nat.zero_le _⟩) (fun r18 h => ?_)
  refine lv_iadd hx hb dX5_thereOf_21 ?_
  exact W.iret (v := ((S 2 i1.toNatClampNeg) + r18)) hx hb hr (fun t ht hW => ⟨_, rfl, h, ht⟩) (fun q hq => by cases hq) dX5_thereOf_22
set_option maxHeartbeats 4000000 in
set_option maxRecDepth 100000 in
theorem c_X5_there (l : Launch) (D : va_G) (cy : ClassId) (ah : Nat → Nat) (sz : Nat) (i1 : Int32) (S : zT) {Q : Int32 → zT → Prop} (h : wp_X5_there i1 S Q) : Met l yX5_there w_X5_there rm_X5_there (va_Pc [.ref (ah 99), .int i1] (zM D cy (bX5 ah cy S) sz)) (va_Qi (S := zT) (fun (r : Int32) (u : zT) => Q r u) (fun u t => va_P D zCl ((fun (u : zT) => (bX5 ah cy u)) u) t.heap) (va_A (bX5 ah cy S) sz)) 0 0 (va_A (bX5 ah cy S) sz) := by
  refine zOf_i (by decide) (Nat.le_of_ble_eq_true rfl) ?_
  intro p e s m below meth c ls A H locs hx hb hr hml hown htB hlocks hK hN hP hD hS hA hl
  replace hl : lv_has ls 2 [(0, .ref (ah 99)), (1, .int i1)] := hl
  refine lv_aload_n hx hb dX5_there_0 rfl (lv_at hl 0 rfl) ?_
  refine lv_iload_n hx hb dX5_there_1 rfl (lv_at hl 1 rfl) ?_
  refine zc_r (va_runV (As := [.int i1]) (rest := []) ⟨hx, hb, hml, hown, htB⟩ (c_X5_isWalker l D cy ah S i1 h) (cwV 1 htB (zgV zm_341 zm_343 zm_344 zm_263 zm_342) rfl rfl rfl hd_X5_isWalker ⟨Nat.le_of_ble_eq_true rfl, Nat.le_of_ble_eq_true rfl⟩) ⟨zR_blind, va_recv hK hP (ci := 5) (q0 := 0) rfl rfl, zR_pre hP hK hN⟩ rfl rfl hl.1 rfl (lv_room (Nat.le_of_ble_eq_true rfl)) dX5_there_2 ⟨Nat.zero_le _, Nat.zero_le _⟩) (fun r2 h => ?_)
  refine lv_if_eq (tgt := 16) hx hb dX5_there_5 (by decide) (fun c5 => ?_) (fun c5 => ?_)
  · replace h := And.left h c5
    refine lv_aload_n hx hb dX5_there_16 rfl (lv_at hl 0 rfl) ?_
    refine lv_iconst (v := (-1 : Int32)) hx hb dX5_there_17 (by decide) ?_
    refine zc_if (ws' := fun u => (bX5 ah cy u)) (va_runV (As := [.int (-1 : Int32)]) (rest := []) ⟨hx, hb, hml, hown, htB⟩ (c_X5_no l D cy ah H.size (-1 : Int32) S h) (cwV 1 htB (zgV zm_261 zm_264 zm_265 zm_263 zm_262) rfl rfl rfl hd_X5_no ⟨Nat.le_of_ble_eq_true rfl, Nat.le_of_ble_eq_true rfl⟩) ⟨zM_blind, va_recv hK hP (ci := 5) (q0 := 0) rfl rfl, zM_pre hP hK hN hD⟩ rfl rfl hl.1 rfl (lv_room (Nat.le_of_ble_eq_true rfl)) dX5_there_18 ⟨Nat.zero_le _, Nat.zero_le _⟩) hS hA hP hD (fun u => rfl) (fun u => rfl) (fun r18 u H locs h hP hD hS => ?_)
    obtain ⟨S_18, eu⟩ : ∃ z, z = u := ⟨_, rfl⟩
    subst eu
    replace hP : va_P D zCl (bX5 ah cy S_18) H := hP
    replace hD : va_D A (bX5 ah cy S_18) := hD
    exact W.iret (v := r18) hx hb hr (fun t ht hW => ⟨⟨_, S_18, rfl, h, zP_h ht hP⟩, hS.F ht⟩) hS.2.2 dX5_there_21
  · replace h := And.right h c5
    refine lv_aload_n hx hb dX5_there_8 rfl (lv_at hl 0 rfl) ?_
    refine lv_iload_n hx hb dX5_there_9 rfl (lv_at hl 1 rfl) ?_
    refine zc_r (va_runV (As := [.int i1]) (rest := []) ⟨hx, hb, hml, hown, htB⟩ (c_X5_thereOf l D cy ah S i1 h) (cwV 1 htB (zgV zm_360 zm_362 zm_363 zm_263 zm_361) rfl rfl rfl hd_X5_thereOf ⟨Nat.le_of_ble_eq_true rfl, Nat.le_of_ble_eq_true rfl⟩) ⟨zR_blind, va_recv hK hP (ci := 5) (q0 := 0) rfl rfl, zR_pre hP hK hN⟩ rfl rfl hl.1 rfl (lv_room (Nat.le_of_ble_eq_true rfl)) dX5_there_10 ⟨Nat.zero_le _, Nat.zero_le _⟩) (fun r10 h => ?_)
    refine lv_goto (tgt := 21) hx hb dX5_there_13 (by decide) ?_
    exact W.iret (v := r10) hx hb hr (fun t ht hW => ⟨⟨_, S, rfl, h, zP_h ht hP⟩, hS.F ht⟩) hS.2.2 dX5_there_21
set_option maxHeartbeats 4000000 in
set_option maxRecDepth 100000 in
theorem c_X5_firstOf (l : Launch) (D : va_G) (cy : ClassId) (ah : Nat → Nat) (S : zT) (i1 : Int32) {Q : Int32 → Prop} (h : wp_X5_firstOf S i1 Q) : Met l yX5_firstOf w_X5_firstOf rm_X5_firstOf (va_Pc [.ref (ah 99), .int i1] (zR D cy (bX5 ah cy S))) (vp_Si Q) 0 0 (fun _ => False) := by
  refine zOf_r (by decide) (Nat.le_of_ble_eq_true rfl) ?_
  intro p e s m below meth c ls hx hb hr hml hown htB hlocks hK hN hP hl
  replace hl : lv_has ls 4 [(0, .ref (ah 99)), (1, .int i1)] := hl
  have L5 : ∀ (k5 : Nat) (x2 : Int32) (x3 : Int32), wpl_X5_firstOf_5 S i1 Q k5 x2 x3 → ∀ ls : Array Slot, lv_has ls 4 [(0, .ref (ah 99)), (1, .int i1), (2, .int x2), (3, .int x3)] → W p l e rm_X5_firstOf s m ([.ref (ah 99), .int i1] : List Value).toArray below meth c s.heap [] 0 0 (MQ below (vp_Si Q) ([.ref (ah 99), .int i1] : List Value).toArray s 0 0 (fun _ => False)) (F0 m 5 ls []) := by
    intro k5
    induction k5 with
    | zero => exact fun x2 x3 h => False.elim h
    | succ k5 ih5 =>
      have L41 : ∀ (x2 : Int32) (x3 : Int32), wpb_X5_firstOf_41 S i1 Q (wpl_X5_firstOf_5 S i1 Q k5) x2 x3 → ∀ ls : Array Slot, lv_has ls 4 [(0, .ref (ah 99)), (1, .int i1), (2, .int x2), (3, .int x3)] → W p l e rm_X5_firstOf s m ([.ref (ah 99), .int i1] : List Value).toArray below meth c s.heap [] 0 0 (MQ below (vp_Si Q) ([.ref (ah 99), .int i1] : List Value).toArray s 0 0 (fun _ => False)) (F0 m 41 ls []) := by
        intro x2 x3 h ls hl
        obtain ⟨y41, ey41⟩ : ∃ z : Int32, z = (x3 + (1 : Int32)) := ⟨_, rfl⟩
        replace h := h y41 ey41
        refine lv_iinc (v := y41) (lv' := [(3, .int y41), (0, .ref (ah 99)), (1, .int i1), (2, .int x2)]) hx hb dX5_firstOf_41 hl (k := 3) rfl (by rw [ey41]; rfl) (by decide) rfl (fun ls hl => ?_)
        refine lv_goto (tgt := 5) hx hb dX5_firstOf_44 (by decide) ?_
        exact ih5 x2 y41 h ls (lv_sub hl [1, 2, 3, 0] rfl)
      have L39 : ∀ (x3 : Int32), wpb_X5_firstOf_39 S i1 Q (wpl_X5_firstOf_5 S i1 Q k5) x3 → ∀ ls : Array Slot, lv_has ls 4 [(0, .ref (ah 99)), (1, .int i1), (3, .int x3)] → W p l e rm_X5_firstOf s m ([.ref (ah 99), .int i1] : List Value).toArray below meth c s.heap [] 0 0 (MQ below (vp_Si Q) ([.ref (ah 99), .int i1] : List Value).toArray s 0 0 (fun _ => False)) (F0 m 39 ls []) := by
        intro x3 h ls hl
        refine lv_iload_n hx hb dX5_firstOf_39 rfl (lv_at hl 2 rfl) ?_
        refine lv_istore_n (lv' := [(2, .int x3), (0, .ref (ah 99)), (1, .int i1), (3, .int x3)]) hx hb dX5_firstOf_40 rfl hl (by decide) rfl (fun ls hl => ?_)
        exact L41 x3 x3 h ls (lv_sub hl [1, 2, 0, 3] rfl)
      intro x2 x3 h ls hl
      refine lv_iload_n hx hb dX5_firstOf_5 rfl (lv_at hl 3 rfl) ?_
      refine lv_aload_n hx hb dX5_firstOf_6 rfl (lv_at hl 0 rfl) ?_
      refine va_get (D := D) (ci := 5) (v := .int (S 13 0)) (C := RX5) (T := TX5) (N := 41) hx hb htB ziX5 hown hK hP 0 rfl rfl 13 (by decide) (htB _ zm_258) (fun _ h9 => h9) rfl dX5_firstOf_7 ?_
      refine lv_icmp_ge (tgt := 47) hx hb dX5_firstOf_10 (by decide) (fun c10 => ?_) (fun c10 => ?_)
      · replace h := And.left h c10
        refine lv_iload_n hx hb dX5_firstOf_47 rfl (lv_at hl 2 rfl) ?_
        exact W.iret (v := x2) hx hb hr (fun t ht hW => ⟨_, rfl, h, ht⟩) (fun q hq => by cases hq) dX5_firstOf_48
      · replace h := And.right h c10
        refine lv_iload_n hx hb dX5_firstOf_13 rfl (lv_at hl 1 rfl) ?_
        refine lv_iload_n hx hb dX5_firstOf_14 rfl (lv_at hl 3 rfl) ?_
        refine lv_ishr hx hb dX5_firstOf_15 ?_
        refine lv_iconst (v := (1 : Int32)) hx hb dX5_firstOf_16 (by decide) ?_
        refine lv_iand hx hb dX5_firstOf_17 ?_
        refine lv_iconst (v := (1 : Int32)) hx hb dX5_firstOf_18 (by decide) ?_
        refine lv_icmp_ne (tgt := 41) hx hb dX5_firstOf_19 (by decide) (fun c19 => ?_) (fun c19 => ?_)
        · replace h := And.right h c19
          exact L41 x2 x3 h ls (lv_sub hl [0, 1, 2, 3] rfl)
        · replace h := And.left h c19
          refine lv_iload_n hx hb dX5_firstOf_22 rfl (lv_at hl 2 rfl) ?_
          refine lv_if_lt (tgt := 39) hx hb dX5_firstOf_23 (by decide) (fun c23 => ?_) (fun c23 => ?_)
          · replace h := And.left h c23
            exact L39 x3 h ls (lv_sub hl [0, 1, 3] rfl)
          · replace h := And.right h c23
            refine lv_aload_n hx hb dX5_firstOf_26 rfl (lv_at hl 0 rfl) ?_
            refine lv_iload_n hx hb dX5_firstOf_27 rfl (lv_at hl 3 rfl) ?_
            refine zc_r (va_runV (As := [.int x3]) (rest := []) ⟨hx, hb, hml, hown, htB⟩ (c_X5_thereOf l D cy ah S x3 h) (cwV 1 htB (zgV zm_360 zm_362 zm_363 zm_263 zm_361) rfl rfl rfl hd_X5_thereOf ⟨Nat.le_of_ble_eq_true rfl, Nat.le_of_ble_eq_true rfl⟩) ⟨zR_blind, va_recv hK hP (ci := 5) (q0 := 0) rfl rfl, zR_pre hP hK hN⟩ rfl rfl hl.1 rfl (lv_room (Nat.le_of_ble_eq_true rfl)) dX5_firstOf_28 ⟨Nat.zero_le _, Nat.zero_le _⟩) (fun r28 h => ?_)
            refine lv_aload_n hx hb dX5_firstOf_31 rfl (lv_at hl 0 rfl) ?_
            refine lv_iload_n hx hb dX5_firstOf_32 rfl (lv_at hl 2 rfl) ?_
            refine zc_r (va_runV (As := [.int x2]) (rest := [.int r28]) ⟨hx, hb, hml, hown, htB⟩ (c_X5_thereOf l D cy ah S x2 h) (cwV 1 htB (zgV zm_360 zm_362 zm_363 zm_263 zm_361) rfl rfl rfl hd_X5_thereOf ⟨Nat.le_of_ble_eq_true rfl, Nat.le_of_ble_eq_true rfl⟩) ⟨zR_blind, va_recv hK hP (ci := 5) (q0 := 0) rfl rfl, zR_pre hP hK hN⟩ rfl rfl hl.1 rfl (lv_room (Nat.le_of_ble_eq_true rfl)) dX5_firstOf_33 ⟨Nat.zero_le _, Nat.zero_le _⟩) (fun r33 h => ?_)
            refine lv_icmp_ge (tgt := 41) hx hb dX5_firstOf_36 (by decide) (fun c36 => ?_) (fun c36 => ?_)
            · replace h := And.left h c36
              exact L41 x2 x3 h ls (lv_sub hl [0, 1, 2, 3] rfl)
            · replace h := And.right h c36
              exact L39 x3 h ls (lv_sub hl [0, 1, 3] rfl)
  refine lv_bipush (v := (-9 : Int32)) hx hb dX5_firstOf_0 (by decide) ?_
  refine lv_istore_n (lv' := [(2, .int (-9 : Int32)), (0, .ref (ah 99)), (1, .int i1)]) hx hb dX5_firstOf_2 rfl hl (by decide) rfl (fun ls hl => ?_)
  refine lv_iconst (v := (0 : Int32)) hx hb dX5_firstOf_3 (by decide) ?_
  refine lv_istore_n (lv' := [(3, .int (0 : Int32)), (2, .int (-9 : Int32)), (0, .ref (ah 99)), (1, .int i1)]) hx hb dX5_firstOf_4 rfl hl (by decide) rfl (fun ls hl => ?_)
  obtain ⟨nn, h⟩ := h
  exact L5 nn (-9 : Int32) (0 : Int32) h ls (lv_sub hl [2, 3, 1, 0] rfl)
set_option maxHeartbeats 4000000 in
set_option maxRecDepth 100000 in
theorem c_X5_holdsFor (l : Launch) (D : va_G) (cy : ClassId) (ah : Nat → Nat) (S : zT) (i1 : Int32) (i2 : Int32) {Q : Int32 → Prop} (h : wp_X5_holdsFor S i1 i2 Q) : Met l yX5_holdsFor w_X5_holdsFor rm_X5_holdsFor (va_Pc [.ref (ah 99), .int i1, .int i2] (zR D cy (bX5 ah cy S))) (vp_Si Q) 0 0 (fun _ => False) := by
  refine zOf_r (by decide) (Nat.le_of_ble_eq_true rfl) ?_
  intro p e s m below meth c ls hx hb hr hml hown htB hlocks hK hN hP hl
  replace hl : lv_has ls 5 [(0, .ref (ah 99)), (1, .int i1), (2, .int i2)] := hl
  have L59 : ∀ (x4 : Int32) (t0 : Int32) (t2 : Int32) (t3 : Int32) (t4 : Int32), wpb_X5_holdsFor_59 S i1 i2 Q x4 t0 t2 t3 t4 → ∀ ls : Array Slot, lv_has ls 5 [(0, .ref (ah 99)), (1, .int i1), (2, .int i2), (4, .int x4)] → W p l e rm_X5_holdsFor s m ([.ref (ah 99), .int i1, .int i2] : List Value).toArray below meth c s.heap [] 0 0 (MQ below (vp_Si Q) ([.ref (ah 99), .int i1, .int i2] : List Value).toArray s 0 0 (fun _ => False)) (F0 m 59 ls [.int t4, .int t3, .int t2, .ref (ah 99), .int t0]) := by
    intro x4 t0 t2 t3 t4 h ls hl
    refine zc_r (va_runV (As := [.int t2, .int t3, .int t4]) (rest := [.int t0]) ⟨hx, hb, hml, hown, htB⟩ (c_X5_farOf l D cy ah S t2 t3 t4 h) (cwV 3 htB (zgV zm_353 zm_355 zm_356 zm_263 zm_354) rfl rfl rfl hd_X5_farOf ⟨Nat.le_of_ble_eq_true rfl, Nat.le_of_ble_eq_true rfl⟩) ⟨zR_blind, va_recv hK hP (ci := 5) (q0 := 0) rfl rfl, zR_pre hP hK hN⟩ rfl rfl hl.1 rfl (lv_room (Nat.le_of_ble_eq_true rfl)) dX5_holdsFor_59 ⟨Nat.zero_le _, Nat.zero_le _⟩) (fun r59 h => ?_)
    refine lv_icmp_gt (tgt := 75) hx hb dX5_holdsFor_62 (by decide) (fun c62 => ?_) (fun c62 => ?_)
    · replace h := And.left h c62
      refine lv_iconst (v := (0 : Int32)) hx hb dX5_holdsFor_75 (by decide) ?_
      exact W.iret (v := (0 : Int32)) hx hb hr (fun t ht hW => ⟨_, rfl, h, ht⟩) (fun q hq => by cases hq) dX5_holdsFor_76
    · replace h := And.right h c62
      refine lv_aload_n hx hb dX5_holdsFor_65 rfl (lv_at hl 0 rfl) ?_
      refine va_get (D := D) (ci := 5) (v := .ref (ah 1)) (C := RX5) (T := TX5) (N := 41) hx hb htB ziX5 hown hK hP 0 rfl rfl 1 (by decide) (htB _ zm_300) (fun _ h9 => h9) rfl dX5_holdsFor_66 ?_
      refine lv_iload_n hx hb dX5_holdsFor_69 rfl (lv_at hl 1 rfl) ?_
      refine va_iald (D := D) hx hb hK hP 2 0 rfl rfl (And.left h) dX5_holdsFor_70 ?_
      replace h := And.right h
      refine lv_iconst (v := (5 : Int32)) hx hb dX5_holdsFor_71 (by decide) ?_
      refine lv_icmp_ne (tgt := 77) hx hb dX5_holdsFor_72 (by decide) (fun c72 => ?_) (fun c72 => ?_)
      · replace h := And.right h c72
        refine lv_iload hx hb dX5_holdsFor_77 (lv_at hl 3 rfl) ?_
        refine lv_aload_n hx hb dX5_holdsFor_79 rfl (lv_at hl 0 rfl) ?_
        refine lv_iload_n hx hb dX5_holdsFor_80 rfl (lv_at hl 2 rfl) ?_
        refine zc_r (va_runV (As := [.int i2]) (rest := [.int x4]) ⟨hx, hb, hml, hown, htB⟩ (c_X5_heldYards l D cy ah S i2 h) (cwV 1 htB (zgV zm_345 zm_347 zm_348 zm_263 zm_346) rfl rfl rfl hd_X5_heldYards ⟨Nat.le_of_ble_eq_true rfl, Nat.le_of_ble_eq_true rfl⟩) ⟨zR_blind, va_recv hK hP (ci := 5) (q0 := 0) rfl rfl, zR_pre hP hK hN⟩ rfl rfl hl.1 rfl (lv_room (Nat.le_of_ble_eq_true rfl)) dX5_holdsFor_81 ⟨Nat.zero_le _, Nat.zero_le _⟩) (fun r81 h => ?_)
        have hPc : va_P D zCl ([] : va_W) s.heap := hP.sub [] rfl
        refine zc_r (va_runS (As := [.int x4, .int r81]) (rest := []) ⟨hx, hb, hml, hown, htB⟩ (c_X5_upBy l D cy  x4 r81 h) (cwS 2 htB (zgS zm_357 zm_359 zm_263 zm_358) rfl rfl rfl hd_X5_upBy ⟨Nat.le_of_ble_eq_true rfl, Nat.le_of_ble_eq_true rfl⟩) ⟨zR_blind, zR_pre hPc hK hN⟩ rfl rfl hl.1 rfl (lv_room (Nat.le_of_ble_eq_true rfl)) dX5_holdsFor_84 ⟨Nat.zero_le _, Nat.zero_le _⟩) (fun r84 h => ?_)
        exact W.iret (v := r84) hx hb hr (fun t ht hW => ⟨_, rfl, h, ht⟩) (fun q hq => by cases hq) dX5_holdsFor_87
      · replace h := And.left h c72
        refine lv_iconst (v := (0 : Int32)) hx hb dX5_holdsFor_75 (by decide) ?_
        exact W.iret (v := (0 : Int32)) hx hb hr (fun t ht hW => ⟨_, rfl, h, ht⟩) (fun q hq => by cases hq) dX5_holdsFor_76
  refine lv_aload_n hx hb dX5_holdsFor_0 rfl (lv_at hl 0 rfl) ?_
  refine va_get (D := D) (ci := 5) (v := .ref (ah 28)) (C := RX5) (T := TX5) (N := 41) hx hb htB ziX5 hown hK hP 0 rfl rfl 28 (by decide) (htB _ zm_364) (fun _ h9 => h9) rfl dX5_holdsFor_1 ?_
  refine lv_iload_n hx hb dX5_holdsFor_4 rfl (lv_at hl 1 rfl) ?_
  refine va_iald (D := D) hx hb hK hP 21 0 rfl rfl (And.left h) dX5_holdsFor_5 ?_
  replace h := And.right h
  refine lv_aload_n hx hb dX5_holdsFor_6 rfl (lv_at hl 0 rfl) ?_
  refine va_get (D := D) (ci := 5) (v := .ref (ah 2)) (C := RX5) (T := TX5) (N := 41) hx hb htB ziX5 hown hK hP 0 rfl rfl 2 (by decide) (htB _ zm_301) (fun _ h9 => h9) rfl dX5_holdsFor_7 ?_
  refine lv_iload_n hx hb dX5_holdsFor_10 rfl (lv_at hl 2 rfl) ?_
  refine va_iald (D := D) hx hb hK hP 3 0 rfl rfl (And.left h) dX5_holdsFor_11 ?_
  replace h := And.right h
  refine lv_isub hx hb dX5_holdsFor_12 ?_
  refine lv_topi (fun y13 ey13 => ?_)
  replace h := h y13 ey13
  refine lv_istore_n (lv' := [(3, .int y13), (0, .ref (ah 99)), (1, .int i1), (2, .int i2)]) hx hb dX5_holdsFor_13 rfl hl (by decide) rfl (fun ls hl => ?_)
  refine lv_aload_n hx hb dX5_holdsFor_14 rfl (lv_at hl 1 rfl) ?_
  refine va_get (D := D) (ci := 5) (v := .ref (ah 3)) (C := RX5) (T := TX5) (N := 41) hx hb htB ziX5 hown hK hP 0 rfl rfl 3 (by decide) (htB _ zm_302) (fun _ h9 => h9) rfl dX5_holdsFor_15 ?_
  refine lv_iload_n hx hb dX5_holdsFor_18 rfl (lv_at hl 3 rfl) ?_
  refine va_iald (D := D) hx hb hK hP 4 0 rfl rfl (And.left h) dX5_holdsFor_19 ?_
  replace h := And.right h
  refine lv_aload_n hx hb dX5_holdsFor_20 rfl (lv_at hl 1 rfl) ?_
  refine va_get (D := D) (ci := 5) (v := .ref (ah 4)) (C := RX5) (T := TX5) (N := 41) hx hb htB ziX5 hown hK hP 0 rfl rfl 4 (by decide) (htB _ zm_303) (fun _ h9 => h9) rfl dX5_holdsFor_21 ?_
  refine lv_iload_n hx hb dX5_holdsFor_24 rfl (lv_at hl 3 rfl) ?_
  refine va_iald (D := D) hx hb hK hP 5 0 rfl rfl (And.left h) dX5_holdsFor_25 ?_
  replace h := And.right h
  refine lv_iload_n hx hb dX5_holdsFor_26 rfl (lv_at hl 0 rfl) ?_
  refine lv_imul hx hb dX5_holdsFor_27 ?_
  refine lv_isub hx hb dX5_holdsFor_28 ?_
  refine lv_topi (fun y29 ey29 => ?_)
  replace h := h y29 ey29
  refine lv_istore (lv' := [(4, .int y29), (3, .int y13), (0, .ref (ah 99)), (1, .int i1), (2, .int i2)]) hx hb dX5_holdsFor_29 hl (by decide) rfl (fun ls hl => ?_)
  refine lv_iload_n hx hb dX5_holdsFor_31 rfl (lv_at hl 1 rfl) ?_
  refine lv_if_lt (tgt := 75) hx hb dX5_holdsFor_32 (by decide) (fun c32 => ?_) (fun c32 => ?_)
  · replace h := And.left h c32
    refine lv_iconst (v := (0 : Int32)) hx hb dX5_holdsFor_75 (by decide) ?_
    exact W.iret (v := (0 : Int32)) hx hb hr (fun t ht hW => ⟨_, rfl, h, ht⟩) (fun q hq => by cases hq) dX5_holdsFor_76
  · replace h := And.right h c32
    refine lv_iload hx hb dX5_holdsFor_35 (lv_at hl 0 rfl) ?_
    refine lv_if_le (tgt := 75) hx hb dX5_holdsFor_37 (by decide) (fun c37 => ?_) (fun c37 => ?_)
    · replace h := And.left h c37
      refine lv_iconst (v := (0 : Int32)) hx hb dX5_holdsFor_75 (by decide) ?_
      exact W.iret (v := (0 : Int32)) hx hb hr (fun t ht hW => ⟨_, rfl, h, ht⟩) (fun q hq => by cases hq) dX5_holdsFor_76
    · replace h := And.right h c37
      refine lv_iload hx hb dX5_holdsFor_40 (lv_at hl 0 rfl) ?_
      refine lv_aload_n hx hb dX5_holdsFor_42 rfl (lv_at hl 2 rfl) ?_
      refine lv_iload_n hx hb dX5_holdsFor_43 rfl (lv_at hl 3 rfl) ?_
      refine lv_iload_n hx hb dX5_holdsFor_44 rfl (lv_at hl 4 rfl) ?_
      refine lv_aload_n hx hb dX5_holdsFor_45 rfl (lv_at hl 2 rfl) ?_
      refine va_get (D := D) (ci := 5) (v := .ref (ah 31)) (C := RX5) (T := TX5) (N := 41) hx hb htB ziX5 hown hK hP 0 rfl rfl 31 (by decide) (htB _ zm_365) (fun _ h9 => h9) rfl dX5_holdsFor_46 ?_
      refine lv_iload_n hx hb dX5_holdsFor_49 rfl (lv_at hl 3 rfl) ?_
      refine va_iald (D := D) hx hb hK hP 24 0 rfl rfl (And.left h) dX5_holdsFor_50 ?_
      replace h := And.right h
      refine lv_if_lt (tgt := 58) hx hb dX5_holdsFor_51 (by decide) (fun c51 => ?_) (fun c51 => ?_)
      · replace h := And.left h c51
        refine lv_iconst (v := (0 : Int32)) hx hb dX5_holdsFor_58 (by decide) ?_
        exact L59 y29 y29 i1 i2 (0 : Int32) h ls (lv_sub hl [2, 3, 4, 0] rfl)
      · replace h := And.right h c51
        refine lv_iconst (v := (1 : Int32)) hx hb dX5_holdsFor_54 (by decide) ?_
        refine lv_goto (tgt := 59) hx hb dX5_holdsFor_55 (by decide) ?_
        exact L59 y29 y29 i1 i2 (1 : Int32) h ls (lv_sub hl [2, 3, 4, 0] rfl)
set_option maxHeartbeats 4000000 in
set_option maxRecDepth 100000 in
theorem c_X5_opensFor (l : Launch) (D : va_G) (cy : ClassId) (ah : Nat → Nat) (sz : Nat) (i1 : Int32) (S : zT) {Q : zT → Prop} (h : wp_X5_opensFor i1 S Q) : Met l yX5_opensFor w_X5_opensFor rm_X5_opensFor (va_Pc [.ref (ah 99), .int i1] (zM D cy (bX5 ah cy S) sz)) (va_Qv (S := zT) (fun (u : zT) => Q u) (fun u t => va_P D zCl ((fun (u : zT) => (bX5 ah cy u)) u) t.heap) (va_A (bX5 ah cy S) sz)) 0 0 (va_A (bX5 ah cy S) sz) := by
  refine zOf_v (by decide) (Nat.le_of_ble_eq_true rfl) ?_
  intro p e s m below meth c ls A H locs hx hb hr hml hown htB hlocks hK hN hP hD hS hA hl
  replace hl : lv_has ls 5 [(0, .ref (ah 99)), (1, .int i1)] := hl
  have L112 : ∀ (t1 : Int32) (t2 : Int32) (S : zT), wpb_X5_opensFor_112 i1 Q t1 t2 S → ∀ (H : Heap) (locs : List Loc), va_P D zCl (bX5 ah cy S) H → va_D A (bX5 ah cy S) → va_S A s.heap H locs → ∀ ls : Array Slot, lv_has ls 5 [(0, .ref (ah 99)), (1, .int i1)] → W p l e rm_X5_opensFor s m ([.ref (ah 99), .int i1] : List Value).toArray below meth c H locs 0 0 (MQ below (va_Qv (S := zT) (fun (u : zT) => Q u) (fun u t => va_P D zCl ((fun (u : zT) => (bX5 ah cy u)) u) t.heap) A) ([.ref (ah 99), .int i1] : List Value).toArray s 0 0 A) (F0 m 112 ls [.int t2, .int t1, .ref (ah 29)]) := by
    intro t1 t2 S h H locs hP hD hS ls hl
    refine va_iast (D := D) hx hb hK hP hD hS 22 0 rfl rfl (And.left h) dX5_opensFor_112 (fun H locs hP hD hS => ?_)
    replace h := And.right h
    obtain ⟨S_112, eS_112⟩ : ∃ z : zT, z = (va_up S 29 (upd (S 29) t1.toNatClampNeg t2)) := ⟨_, rfl⟩
    replace h := h S_112 eS_112
    replace hP : va_P D zCl (bX5 ah cy S_112) H := by rw [eS_112]; exact hP
    replace hD : va_D A (bX5 ah cy S_112) := by rw [eS_112]; exact hD
    refine lv_aload_n hx hb dX5_opensFor_113 rfl (lv_at hl 0 rfl) ?_
    refine va_get (D := D) (ci := 5) (v := .ref (ah 28)) (C := RX5) (T := TX5) (N := 41) hx hb htB ziX5 hown hK hP 0 rfl rfl 28 (by decide) (htB _ zm_364) (fun _ h9 => h9) rfl dX5_opensFor_114 ?_
    refine lv_iload_n hx hb dX5_opensFor_117 rfl (lv_at hl 1 rfl) ?_
    refine lv_aload_n hx hb dX5_opensFor_118 rfl (lv_at hl 0 rfl) ?_
    refine va_get (D := D) (ci := 5) (v := .ref (ah 27)) (C := RX5) (T := TX5) (N := 41) hx hb htB ziX5 hown hK hP 0 rfl rfl 27 (by decide) (htB _ zm_366) (fun _ h9 => h9) rfl dX5_opensFor_119 ?_
    refine lv_iload_n hx hb dX5_opensFor_122 rfl (lv_at hl 1 rfl) ?_
    refine va_iald (D := D) hx hb hK hP 20 0 rfl rfl (And.left h) dX5_opensFor_123 ?_
    replace h := And.right h
    refine lv_aload_n hx hb dX5_opensFor_124 rfl (lv_at hl 0 rfl) ?_
    refine va_get (D := D) (ci := 5) (v := .ref (ah 29)) (C := RX5) (T := TX5) (N := 41) hx hb htB ziX5 hown hK hP 0 rfl rfl 29 (by decide) (htB _ zm_367) (fun _ h9 => h9) rfl dX5_opensFor_125 ?_
    refine lv_iload_n hx hb dX5_opensFor_128 rfl (lv_at hl 1 rfl) ?_
    refine va_iald (D := D) hx hb hK hP 22 0 rfl rfl (And.left h) dX5_opensFor_129 ?_
    replace h := And.right h
    refine lv_iadd hx hb dX5_opensFor_130 ?_
    refine va_iast (D := D) hx hb hK hP hD hS 21 0 rfl rfl (And.left h) dX5_opensFor_131 (fun H locs hP hD hS => ?_)
    replace h := And.right h
    obtain ⟨S_131, eS_131⟩ : ∃ z : zT, z = (va_up S_112 28 (upd (S_112 28) i1.toNatClampNeg ((S_112 27 i1.toNatClampNeg) + (S_112 29 i1.toNatClampNeg)))) := ⟨_, rfl⟩
    replace h := h S_131 eS_131
    replace hP : va_P D zCl (bX5 ah cy S_131) H := by rw [eS_131]; exact hP
    replace hD : va_D A (bX5 ah cy S_131) := by rw [eS_131]; exact hD
    refine lv_aload_n hx hb dX5_opensFor_132 rfl (lv_at hl 0 rfl) ?_
    refine va_get (D := D) (ci := 5) (v := .ref (ah 31)) (C := RX5) (T := TX5) (N := 41) hx hb htB ziX5 hown hK hP 0 rfl rfl 31 (by decide) (htB _ zm_365) (fun _ h9 => h9) rfl dX5_opensFor_133 ?_
    refine lv_iload_n hx hb dX5_opensFor_136 rfl (lv_at hl 1 rfl) ?_
    refine lv_bipush (v := (-9 : Int32)) hx hb dX5_opensFor_137 (by decide) ?_
    refine va_iast (D := D) hx hb hK hP hD hS 24 0 rfl rfl (And.left h) dX5_opensFor_139 (fun H locs hP hD hS => ?_)
    replace h := And.right h
    obtain ⟨S_139, eS_139⟩ : ∃ z : zT, z = (va_up S_131 31 (upd (S_131 31) i1.toNatClampNeg (-9 : Int32))) := ⟨_, rfl⟩
    replace h := h S_139 eS_139
    replace hP : va_P D zCl (bX5 ah cy S_139) H := by rw [eS_139]; exact hP
    replace hD : va_D A (bX5 ah cy S_139) := by rw [eS_139]; exact hD
    refine lv_aload_n hx hb dX5_opensFor_140 rfl (lv_at hl 0 rfl) ?_
    refine va_get (D := D) (ci := 5) (v := .ref (ah 32)) (C := RX5) (T := TX5) (N := 41) hx hb htB ziX5 hown hK hP 0 rfl rfl 32 (by decide) (htB _ zm_368) (fun _ h9 => h9) rfl dX5_opensFor_141 ?_
    refine lv_iload_n hx hb dX5_opensFor_144 rfl (lv_at hl 1 rfl) ?_
    refine lv_iconst (v := (0 : Int32)) hx hb dX5_opensFor_145 (by decide) ?_
    refine va_iast (D := D) hx hb hK hP hD hS 25 0 rfl rfl (And.left h) dX5_opensFor_146 (fun H locs hP hD hS => ?_)
    replace h := And.right h
    obtain ⟨S_146, eS_146⟩ : ∃ z : zT, z = (va_up S_139 32 (upd (S_139 32) i1.toNatClampNeg (0 : Int32))) := ⟨_, rfl⟩
    replace h := h S_146 eS_146
    replace hP : va_P D zCl (bX5 ah cy S_146) H := by rw [eS_146]; exact hP
    replace hD : va_D A (bX5 ah cy S_146) := by rw [eS_146]; exact hD
    exact W.vret hx hb hr (fun t ht hW => ⟨⟨S_146, rfl, h, zP_h ht hP⟩, hS.F ht⟩) hS.2.2 dX5_opensFor_147
  have L106 : ∀ (t1 : Int32) (S : zT), wpb_X5_opensFor_106 i1 Q t1 S → ∀ (H : Heap) (locs : List Loc), va_P D zCl (bX5 ah cy S) H → va_D A (bX5 ah cy S) → va_S A s.heap H locs → ∀ ls : Array Slot, lv_has ls 5 [(0, .ref (ah 99)), (1, .int i1)] → W p l e rm_X5_opensFor s m ([.ref (ah 99), .int i1] : List Value).toArray below meth c H locs 0 0 (MQ below (va_Qv (S := zT) (fun (u : zT) => Q u) (fun u t => va_P D zCl ((fun (u : zT) => (bX5 ah cy u)) u) t.heap) A) ([.ref (ah 99), .int i1] : List Value).toArray s 0 0 A) (F0 m 106 ls [.int t1, .ref (ah 29)]) := by
    intro t1 S h H locs hP hD hS ls hl
    refine lv_iconst (v := (0 : Int32)) hx hb dX5_opensFor_106 (by decide) ?_
    refine lv_goto (tgt := 112) hx hb dX5_opensFor_107 (by decide) ?_
    exact L112 t1 (0 : Int32) S h H locs hP hD hS ls (lv_sub hl [0, 1] rfl)
  have L89 : ∀ (x3 : Int32) (t0 : Int32) (t1 : Int32) (S : zT), wpb_X5_opensFor_89 i1 Q x3 t0 t1 S → ∀ (H : Heap) (locs : List Loc), va_P D zCl (bX5 ah cy S) H → va_D A (bX5 ah cy S) → va_S A s.heap H locs → ∀ ls : Array Slot, lv_has ls 5 [(0, .ref (ah 99)), (1, .int i1), (3, .int x3)] → W p l e rm_X5_opensFor s m ([.ref (ah 99), .int i1] : List Value).toArray below meth c H locs 0 0 (MQ below (va_Qv (S := zT) (fun (u : zT) => Q u) (fun u t => va_P D zCl ((fun (u : zT) => (bX5 ah cy u)) u) t.heap) A) ([.ref (ah 99), .int i1] : List Value).toArray s 0 0 A) (F0 m 89 ls [.int t1, .int t0]) := by
    intro x3 t0 t1 S h H locs hP hD hS ls hl
    refine lv_isub hx hb dX5_opensFor_89 ?_
    refine lv_topi (fun y90 ey90 => ?_)
    replace h := h y90 ey90
    refine lv_istore (lv' := [(4, .int y90), (0, .ref (ah 99)), (1, .int i1), (3, .int x3)]) hx hb dX5_opensFor_90 hl (by decide) rfl (fun ls hl => ?_)
    refine lv_aload_n hx hb dX5_opensFor_92 rfl (lv_at hl 1 rfl) ?_
    refine va_get (D := D) (ci := 5) (v := .ref (ah 29)) (C := RX5) (T := TX5) (N := 41) hx hb htB ziX5 hown hK hP 0 rfl rfl 29 (by decide) (htB _ zm_367) (fun _ h9 => h9) rfl dX5_opensFor_93 ?_
    refine lv_iload_n hx hb dX5_opensFor_96 rfl (lv_at hl 2 rfl) ?_
    refine lv_iload_n hx hb dX5_opensFor_97 rfl (lv_at hl 3 rfl) ?_
    refine lv_if_ne (tgt := 106) hx hb dX5_opensFor_98 (by decide) (fun c98 => ?_) (fun c98 => ?_)
    · replace h := And.right h c98
      exact L106 i1 S h H locs hP hD hS ls (lv_sub hl [1, 2] rfl)
    · replace h := And.left h c98
      refine lv_iload hx hb dX5_opensFor_101 (lv_at hl 0 rfl) ?_
      refine lv_if_ge (tgt := 110) hx hb dX5_opensFor_103 (by decide) (fun c103 => ?_) (fun c103 => ?_)
      · replace h := And.left h c103
        refine lv_iload hx hb dX5_opensFor_110 (lv_at hl 0 rfl) ?_
        exact L112 i1 y90 S h H locs hP hD hS ls (lv_sub hl [1, 2] rfl)
      · replace h := And.right h c103
        exact L106 i1 S h H locs hP hD hS ls (lv_sub hl [1, 2] rfl)
  have L60 : ∀ (t0 : Int32) (S : zT), wpb_X5_opensFor_60 i1 Q t0 S → ∀ (H : Heap) (locs : List Loc), va_P D zCl (bX5 ah cy S) H → va_D A (bX5 ah cy S) → va_S A s.heap H locs → ∀ ls : Array Slot, lv_has ls 5 [(0, .ref (ah 99)), (1, .int i1)] → W p l e rm_X5_opensFor s m ([.ref (ah 99), .int i1] : List Value).toArray below meth c H locs 0 0 (MQ below (va_Qv (S := zT) (fun (u : zT) => Q u) (fun u t => va_P D zCl ((fun (u : zT) => (bX5 ah cy u)) u) t.heap) A) ([.ref (ah 99), .int i1] : List Value).toArray s 0 0 A) (F0 m 60 ls [.int t0]) := by
    intro t0 S h H locs hP hD hS ls hl
    refine lv_istore_n (lv' := [(3, .int t0), (0, .ref (ah 99)), (1, .int i1)]) hx hb dX5_opensFor_60 rfl hl (by decide) rfl (fun ls hl => ?_)
    refine lv_aload_n hx hb dX5_opensFor_61 rfl (lv_at hl 1 rfl) ?_
    refine va_get (D := D) (ci := 5) (v := .ref (ah 8)) (C := RX5) (T := TX5) (N := 41) hx hb htB ziX5 hown hK hP 0 rfl rfl 8 (by decide) (htB _ zm_307) (fun _ h9 => h9) rfl dX5_opensFor_62 ?_
    refine lv_iconst (v := (1 : Int32)) hx hb dX5_opensFor_65 (by decide) ?_
    refine va_iald (D := D) hx hb hK hP 9 0 rfl rfl (And.left h) dX5_opensFor_66 ?_
    replace h := And.right h
    refine lv_aload_n hx hb dX5_opensFor_67 rfl (lv_at hl 1 rfl) ?_
    refine va_get (D := D) (ci := 5) (v := .ref (ah 5)) (C := RX5) (T := TX5) (N := 41) hx hb htB ziX5 hown hK hP 0 rfl rfl 5 (by decide) (htB _ zm_304) (fun _ h9 => h9) rfl dX5_opensFor_68 ?_
    refine lv_iload_n hx hb dX5_opensFor_71 rfl (lv_at hl 2 rfl) ?_
    refine va_iald (D := D) hx hb hK hP 6 0 rfl rfl (And.left h) dX5_opensFor_72 ?_
    replace h := And.right h
    refine lv_iadd hx hb dX5_opensFor_73 ?_
    refine lv_aload_n hx hb dX5_opensFor_74 rfl (lv_at hl 1 rfl) ?_
    refine va_get (D := D) (ci := 5) (v := .ref (ah 1)) (C := RX5) (T := TX5) (N := 41) hx hb htB ziX5 hown hK hP 0 rfl rfl 1 (by decide) (htB _ zm_300) (fun _ h9 => h9) rfl dX5_opensFor_75 ?_
    refine lv_iload_n hx hb dX5_opensFor_78 rfl (lv_at hl 2 rfl) ?_
    refine va_iald (D := D) hx hb hK hP 2 0 rfl rfl (And.left h) dX5_opensFor_79 ?_
    replace h := And.right h
    refine lv_iconst (v := (4 : Int32)) hx hb dX5_opensFor_80 (by decide) ?_
    refine lv_icmp_ne (tgt := 88) hx hb dX5_opensFor_81 (by decide) (fun c81 => ?_) (fun c81 => ?_)
    · replace h := And.right h c81
      refine lv_iconst (v := (0 : Int32)) hx hb dX5_opensFor_88 (by decide) ?_
      exact L89 t0 ((S 8 (1 : Int32).toNatClampNeg) + (S 5 i1.toNatClampNeg)) (0 : Int32) S h H locs hP hD hS ls (lv_sub hl [1, 2, 0] rfl)
    · replace h := And.left h c81
      refine lv_iconst (v := (1 : Int32)) hx hb dX5_opensFor_84 (by decide) ?_
      refine lv_goto (tgt := 89) hx hb dX5_opensFor_85 (by decide) ?_
      exact L89 t0 ((S 8 (1 : Int32).toNatClampNeg) + (S 5 i1.toNatClampNeg)) (1 : Int32) S h H locs hP hD hS ls (lv_sub hl [1, 2, 0] rfl)
  have L59 : ∀ (S : zT), wpb_X5_opensFor_59 i1 Q S → ∀ (H : Heap) (locs : List Loc), va_P D zCl (bX5 ah cy S) H → va_D A (bX5 ah cy S) → va_S A s.heap H locs → ∀ ls : Array Slot, lv_has ls 5 [(0, .ref (ah 99)), (1, .int i1)] → W p l e rm_X5_opensFor s m ([.ref (ah 99), .int i1] : List Value).toArray below meth c H locs 0 0 (MQ below (va_Qv (S := zT) (fun (u : zT) => Q u) (fun u t => va_P D zCl ((fun (u : zT) => (bX5 ah cy u)) u) t.heap) A) ([.ref (ah 99), .int i1] : List Value).toArray s 0 0 A) (F0 m 59 ls []) := by
    intro S h H locs hP hD hS ls hl
    refine lv_iconst (v := (0 : Int32)) hx hb dX5_opensFor_59 (by decide) ?_
    exact L60 (0 : Int32) S h H locs hP hD hS ls (lv_sub hl [0, 1] rfl)
  have L27 : ∀ (t1 : Int32) (t2 : Int32) (S : zT), wpb_X5_opensFor_27 i1 Q t1 t2 S → ∀ (H : Heap) (locs : List Loc), va_P D zCl (bX5 ah cy S) H → va_D A (bX5 ah cy S) → va_S A s.heap H locs → ∀ ls : Array Slot, lv_has ls 5 [(0, .ref (ah 99)), (1, .int i1)] → W p l e rm_X5_opensFor s m ([.ref (ah 99), .int i1] : List Value).toArray below meth c H locs 0 0 (MQ below (va_Qv (S := zT) (fun (u : zT) => Q u) (fun u t => va_P D zCl ((fun (u : zT) => (bX5 ah cy u)) u) t.heap) A) ([.ref (ah 99), .int i1] : List Value).toArray s 0 0 A) (F0 m 27 ls [.int t2, .int t1, .ref (ah 27)]) := by
    intro t1 t2 S h H locs hP hD hS ls hl
    refine va_iast (D := D) hx hb hK hP hD hS 20 0 rfl rfl (And.left h) dX5_opensFor_27 (fun H locs hP hD hS => ?_)
    replace h := And.right h
    obtain ⟨S_27, eS_27⟩ : ∃ z : zT, z = (va_up S 27 (upd (S 27) t1.toNatClampNeg t2)) := ⟨_, rfl⟩
    replace h := h S_27 eS_27
    replace hP : va_P D zCl (bX5 ah cy S_27) H := by rw [eS_27]; exact hP
    replace hD : va_D A (bX5 ah cy S_27) := by rw [eS_27]; exact hD
    refine lv_aload_n hx hb dX5_opensFor_28 rfl (lv_at hl 0 rfl) ?_
    refine va_get (D := D) (ci := 5) (v := .int (S_27 36 0)) (C := RX5) (T := TX5) (N := 41) hx hb htB ziX5 hown hK hP 0 rfl rfl 36 (by decide) (htB _ zm_369) (fun _ h9 => h9) rfl dX5_opensFor_29 ?_
    refine lv_if_le (tgt := 59) hx hb dX5_opensFor_32 (by decide) (fun c32 => ?_) (fun c32 => ?_)
    · replace h := And.left h c32
      exact L59 S_27 h H locs hP hD hS ls (lv_sub hl [0, 1] rfl)
    · replace h := And.right h c32
      refine lv_aload_n hx hb dX5_opensFor_35 rfl (lv_at hl 0 rfl) ?_
      refine va_get (D := D) (ci := 5) (v := .ref (ah 27)) (C := RX5) (T := TX5) (N := 41) hx hb htB ziX5 hown hK hP 0 rfl rfl 27 (by decide) (htB _ zm_366) (fun _ h9 => h9) rfl dX5_opensFor_36 ?_
      refine lv_iload_n hx hb dX5_opensFor_39 rfl (lv_at hl 1 rfl) ?_
      refine va_iald (D := D) hx hb hK hP 20 0 rfl rfl (And.left h) dX5_opensFor_40 ?_
      replace h := And.right h
      refine lv_aload_n hx hb dX5_opensFor_41 rfl (lv_at hl 0 rfl) ?_
      refine va_get (D := D) (ci := 5) (v := .int (S_27 35 0)) (C := RX5) (T := TX5) (N := 41) hx hb htB ziX5 hown hK hP 0 rfl rfl 35 (by decide) (htB _ zm_370) (fun _ h9 => h9) rfl dX5_opensFor_42 ?_
      refine lv_isub hx hb dX5_opensFor_45 ?_
      refine lv_aload_n hx hb dX5_opensFor_46 rfl (lv_at hl 0 rfl) ?_
      refine va_get (D := D) (ci := 5) (v := .ref (ah 8)) (C := RX5) (T := TX5) (N := 41) hx hb htB ziX5 hown hK hP 0 rfl rfl 8 (by decide) (htB _ zm_307) (fun _ h9 => h9) rfl dX5_opensFor_47 ?_
      refine lv_iconst (v := (0 : Int32)) hx hb dX5_opensFor_50 (by decide) ?_
      refine va_iald (D := D) hx hb hK hP 9 0 rfl rfl (And.left h) dX5_opensFor_51 ?_
      replace h := And.right h
      refine lv_icmp_ge (tgt := 59) hx hb dX5_opensFor_52 (by decide) (fun c52 => ?_) (fun c52 => ?_)
      · replace h := And.left h c52
        exact L59 S_27 h H locs hP hD hS ls (lv_sub hl [0, 1] rfl)
      · replace h := And.right h c52
        refine lv_iconst (v := (1 : Int32)) hx hb dX5_opensFor_55 (by decide) ?_
        refine lv_goto (tgt := 60) hx hb dX5_opensFor_56 (by decide) ?_
        exact L60 (1 : Int32) S_27 h H locs hP hD hS ls (lv_sub hl [0, 1] rfl)
  refine lv_aload_n hx hb dX5_opensFor_0 rfl (lv_at hl 0 rfl) ?_
  refine lv_iload_n hx hb dX5_opensFor_1 rfl (lv_at hl 1 rfl) ?_
  refine zc_r (va_runV (As := [.int i1]) (rest := []) ⟨hx, hb, hml, hown, htB⟩ (c_X5_thereOf l D cy ah S i1 h) (cwV 1 htB (zgV zm_360 zm_362 zm_363 zm_263 zm_361) rfl rfl rfl hd_X5_thereOf ⟨Nat.le_of_ble_eq_true rfl, Nat.le_of_ble_eq_true rfl⟩) ⟨zR_blind, va_recv hK hP (ci := 5) (q0 := 0) rfl rfl, zR_pre hP hK hN⟩ rfl rfl hl.1 rfl (lv_room (Nat.le_of_ble_eq_true rfl)) dX5_opensFor_2 ⟨Nat.zero_le _, Nat.zero_le _⟩) (fun r2 h => ?_)
  refine lv_istore_n (lv' := [(2, .int r2), (0, .ref (ah 99)), (1, .int i1)]) hx hb dX5_opensFor_5 rfl hl (by decide) rfl (fun ls hl => ?_)
  refine lv_aload_n hx hb dX5_opensFor_6 rfl (lv_at hl 1 rfl) ?_
  refine va_get (D := D) (ci := 5) (v := .ref (ah 27)) (C := RX5) (T := TX5) (N := 41) hx hb htB ziX5 hown hK hP 0 rfl rfl 27 (by decide) (htB _ zm_366) (fun _ h9 => h9) rfl dX5_opensFor_7 ?_
  refine lv_iload_n hx hb dX5_opensFor_10 rfl (lv_at hl 2 rfl) ?_
  refine lv_iload_n hx hb dX5_opensFor_11 rfl (lv_at hl 0 rfl) ?_
  refine lv_aload_n hx hb dX5_opensFor_12 rfl (lv_at hl 1 rfl) ?_
  refine va_get (D := D) (ci := 5) (v := .int (S 35 0)) (C := RX5) (T := TX5) (N := 41) hx hb htB ziX5 hown hK hP 0 rfl rfl 35 (by decide) (htB _ zm_370) (fun _ h9 => h9) rfl dX5_opensFor_13 ?_
  refine lv_icmp_le (tgt := 23) hx hb dX5_opensFor_16 (by decide) (fun c16 => ?_) (fun c16 => ?_)
  · replace h := And.left h c16
    refine lv_aload_n hx hb dX5_opensFor_23 rfl (lv_at hl 1 rfl) ?_
    refine va_get (D := D) (ci := 5) (v := .int (S 35 0)) (C := RX5) (T := TX5) (N := 41) hx hb htB ziX5 hown hK hP 0 rfl rfl 35 (by decide) (htB _ zm_370) (fun _ h9 => h9) rfl dX5_opensFor_24 ?_
    exact L27 i1 (S 35 0) S h H locs hP hD hS ls (lv_sub hl [1, 2] rfl)
  · replace h := And.right h c16
    refine lv_iload_n hx hb dX5_opensFor_19 rfl (lv_at hl 0 rfl) ?_
    refine lv_goto (tgt := 27) hx hb dX5_opensFor_20 (by decide) ?_
    exact L27 i1 r2 S h H locs hP hD hS ls (lv_sub hl [1, 2] rfl)
set_option maxHeartbeats 4000000 in
set_option maxRecDepth 100000 in
theorem c_X5_isHeldFor (l : Launch) (D : va_G) (cy : ClassId) (ah : Nat → Nat) (sz : Nat) (i1 : Int32) (i2 : Int32) (i3 : Int32) (S : zT) {Q : zT → Prop} (h : wp_X5_isHeldFor i1 i2 i3 S Q) : Met l yX5_isHeldFor w_X5_isHeldFor rm_X5_isHeldFor (va_Pc [.ref (ah 99), .int i1, .int i2, .int i3] (zM D cy (bX5 ah cy S) sz)) (va_Qv (S := zT) (fun (u : zT) => Q u) (fun u t => va_P D zCl ((fun (u : zT) => (bX5 ah cy u)) u) t.heap) (va_A (bX5 ah cy S) sz)) 0 0 (va_A (bX5 ah cy S) sz) := by
  refine zOf_v (by decide) (Nat.le_of_ble_eq_true rfl) ?_
  intro p e s m below meth c ls A H locs hx hb hr hml hown htB hlocks hK hN hP hD hS hA hl
  replace hl : lv_has ls 4 [(0, .ref (ah 99)), (1, .int i1), (2, .int i2), (3, .int i3)] := hl
  have L71 : ∀ (t1 : Int32) (t2 : Int32) (S : zT), wpb_X5_isHeldFor_71 i1 i2 i3 Q t1 t2 S → ∀ (H : Heap) (locs : List Loc), va_P D zCl (bX5 ah cy S) H → va_D A (bX5 ah cy S) → va_S A s.heap H locs → ∀ ls : Array Slot, lv_has ls 4 [(0, .ref (ah 99))] → W p l e rm_X5_isHeldFor s m ([.ref (ah 99), .int i1, .int i2, .int i3] : List Value).toArray below meth c H locs 0 0 (MQ below (va_Qv (S := zT) (fun (u : zT) => Q u) (fun u t => va_P D zCl ((fun (u : zT) => (bX5 ah cy u)) u) t.heap) A) ([.ref (ah 99), .int i1, .int i2, .int i3] : List Value).toArray s 0 0 A) (F0 m 71 ls [.int t2, .int t1, .ref (ah 32)]) := by
    intro t1 t2 S h H locs hP hD hS ls hl
    refine va_iast (D := D) hx hb hK hP hD hS 25 0 rfl rfl (And.left h) dX5_isHeldFor_71 (fun H locs hP hD hS => ?_)
    replace h := And.right h
    obtain ⟨S_71, eS_71⟩ : ∃ z : zT, z = (va_up S 32 (upd (S 32) t1.toNatClampNeg t2)) := ⟨_, rfl⟩
    replace h := h S_71 eS_71
    replace hP : va_P D zCl (bX5 ah cy S_71) H := by rw [eS_71]; exact hP
    replace hD : va_D A (bX5 ah cy S_71) := by rw [eS_71]; exact hD
    exact W.vret hx hb hr (fun t ht hW => ⟨⟨S_71, rfl, h, zP_h ht hP⟩, hS.F ht⟩) hS.2.2 dX5_isHeldFor_72
  refine lv_aload_n hx hb dX5_isHeldFor_0 rfl (lv_at hl 0 rfl) ?_
  refine va_get (D := D) (ci := 5) (v := .ref (ah 30)) (C := RX5) (T := TX5) (N := 41) hx hb htB ziX5 hown hK hP 0 rfl rfl 30 (by decide) (htB _ zm_371) (fun _ h9 => h9) rfl dX5_isHeldFor_1 ?_
  refine lv_iload_n hx hb dX5_isHeldFor_4 rfl (lv_at hl 2 rfl) ?_
  refine lv_iload_n hx hb dX5_isHeldFor_5 rfl (lv_at hl 3 rfl) ?_
  refine va_iast (D := D) hx hb hK hP hD hS 23 0 rfl rfl (And.left h) dX5_isHeldFor_6 (fun H locs hP hD hS => ?_)
  replace h := And.right h
  obtain ⟨S_6, eS_6⟩ : ∃ z : zT, z = (va_up S 30 (upd (S 30) i2.toNatClampNeg i3)) := ⟨_, rfl⟩
  replace h := h S_6 eS_6
  replace hP : va_P D zCl (bX5 ah cy S_6) H := by rw [eS_6]; exact hP
  replace hD : va_D A (bX5 ah cy S_6) := by rw [eS_6]; exact hD
  refine lv_aload_n hx hb dX5_isHeldFor_7 rfl (lv_at hl 0 rfl) ?_
  refine va_get (D := D) (ci := 5) (v := .ref (ah 28)) (C := RX5) (T := TX5) (N := 41) hx hb htB ziX5 hown hK hP 0 rfl rfl 28 (by decide) (htB _ zm_364) (fun _ h9 => h9) rfl dX5_isHeldFor_8 ?_
  refine lv_iload_n hx hb dX5_isHeldFor_11 rfl (lv_at hl 1 rfl) ?_
  refine lv_aload_n hx hb dX5_isHeldFor_12 rfl (lv_at hl 0 rfl) ?_
  refine va_get (D := D) (ci := 5) (v := .ref (ah 28)) (C := RX5) (T := TX5) (N := 41) hx hb htB ziX5 hown hK hP 0 rfl rfl 28 (by decide) (htB _ zm_364) (fun _ h9 => h9) rfl dX5_isHeldFor_13 ?_
  refine lv_iload_n hx hb dX5_isHeldFor_16 rfl (lv_at hl 2 rfl) ?_
  refine va_iald (D := D) hx hb hK hP 21 0 rfl rfl (And.left h) dX5_isHeldFor_17 ?_
  replace h := And.right h
  refine lv_iload_n hx hb dX5_isHeldFor_18 rfl (lv_at hl 3 rfl) ?_
  refine lv_iadd hx hb dX5_isHeldFor_19 ?_
  refine va_iast (D := D) hx hb hK hP hD hS 21 0 rfl rfl (And.left h) dX5_isHeldFor_20 (fun H locs hP hD hS => ?_)
  replace h := And.right h
  obtain ⟨S_20, eS_20⟩ : ∃ z : zT, z = (va_up S_6 28 (upd (S_6 28) i1.toNatClampNeg ((S_6 28 i2.toNatClampNeg) + i3))) := ⟨_, rfl⟩
  replace h := h S_20 eS_20
  replace hP : va_P D zCl (bX5 ah cy S_20) H := by rw [eS_20]; exact hP
  replace hD : va_D A (bX5 ah cy S_20) := by rw [eS_20]; exact hD
  refine lv_aload_n hx hb dX5_isHeldFor_21 rfl (lv_at hl 0 rfl) ?_
  refine va_get (D := D) (ci := 5) (v := .ref (ah 27)) (C := RX5) (T := TX5) (N := 41) hx hb htB ziX5 hown hK hP 0 rfl rfl 27 (by decide) (htB _ zm_366) (fun _ h9 => h9) rfl dX5_isHeldFor_22 ?_
  refine lv_iload_n hx hb dX5_isHeldFor_25 rfl (lv_at hl 1 rfl) ?_
  refine lv_aload_n hx hb dX5_isHeldFor_26 rfl (lv_at hl 0 rfl) ?_
  refine va_get (D := D) (ci := 5) (v := .ref (ah 28)) (C := RX5) (T := TX5) (N := 41) hx hb htB ziX5 hown hK hP 0 rfl rfl 28 (by decide) (htB _ zm_364) (fun _ h9 => h9) rfl dX5_isHeldFor_27 ?_
  refine lv_iload_n hx hb dX5_isHeldFor_30 rfl (lv_at hl 1 rfl) ?_
  refine va_iald (D := D) hx hb hK hP 21 0 rfl rfl (And.left h) dX5_isHeldFor_31 ?_
  replace h := And.right h
  refine va_iast (D := D) hx hb hK hP hD hS 20 0 rfl rfl (And.left h) dX5_isHeldFor_32 (fun H locs hP hD hS => ?_)
  replace h := And.right h
  obtain ⟨S_32, eS_32⟩ : ∃ z : zT, z = (va_up S_20 27 (upd (S_20 27) i1.toNatClampNeg (S_20 28 i1.toNatClampNeg))) := ⟨_, rfl⟩
  replace h := h S_32 eS_32
  replace hP : va_P D zCl (bX5 ah cy S_32) H := by rw [eS_32]; exact hP
  replace hD : va_D A (bX5 ah cy S_32) := by rw [eS_32]; exact hD
  refine lv_aload_n hx hb dX5_isHeldFor_33 rfl (lv_at hl 0 rfl) ?_
  refine va_get (D := D) (ci := 5) (v := .ref (ah 29)) (C := RX5) (T := TX5) (N := 41) hx hb htB ziX5 hown hK hP 0 rfl rfl 29 (by decide) (htB _ zm_367) (fun _ h9 => h9) rfl dX5_isHeldFor_34 ?_
  refine lv_iload_n hx hb dX5_isHeldFor_37 rfl (lv_at hl 1 rfl) ?_
  refine lv_iconst (v := (0 : Int32)) hx hb dX5_isHeldFor_38 (by decide) ?_
  refine va_iast (D := D) hx hb hK hP hD hS 22 0 rfl rfl (And.left h) dX5_isHeldFor_39 (fun H locs hP hD hS => ?_)
  replace h := And.right h
  obtain ⟨S_39, eS_39⟩ : ∃ z : zT, z = (va_up S_32 29 (upd (S_32 29) i1.toNatClampNeg (0 : Int32))) := ⟨_, rfl⟩
  replace h := h S_39 eS_39
  replace hP : va_P D zCl (bX5 ah cy S_39) H := by rw [eS_39]; exact hP
  replace hD : va_D A (bX5 ah cy S_39) := by rw [eS_39]; exact hD
  refine lv_aload_n hx hb dX5_isHeldFor_40 rfl (lv_at hl 0 rfl) ?_
  refine va_get (D := D) (ci := 5) (v := .ref (ah 31)) (C := RX5) (T := TX5) (N := 41) hx hb htB ziX5 hown hK hP 0 rfl rfl 31 (by decide) (htB _ zm_365) (fun _ h9 => h9) rfl dX5_isHeldFor_41 ?_
  refine lv_iload_n hx hb dX5_isHeldFor_44 rfl (lv_at hl 1 rfl) ?_
  refine lv_iload_n hx hb dX5_isHeldFor_45 rfl (lv_at hl 2 rfl) ?_
  refine va_iast (D := D) hx hb hK hP hD hS 24 0 rfl rfl (And.left h) dX5_isHeldFor_46 (fun H locs hP hD hS => ?_)
  replace h := And.right h
  obtain ⟨S_46, eS_46⟩ : ∃ z : zT, z = (va_up S_39 31 (upd (S_39 31) i1.toNatClampNeg i2)) := ⟨_, rfl⟩
  replace h := h S_46 eS_46
  replace hP : va_P D zCl (bX5 ah cy S_46) H := by rw [eS_46]; exact hP
  replace hD : va_D A (bX5 ah cy S_46) := by rw [eS_46]; exact hD
  refine lv_aload_n hx hb dX5_isHeldFor_47 rfl (lv_at hl 0 rfl) ?_
  refine va_get (D := D) (ci := 5) (v := .ref (ah 32)) (C := RX5) (T := TX5) (N := 41) hx hb htB ziX5 hown hK hP 0 rfl rfl 32 (by decide) (htB _ zm_368) (fun _ h9 => h9) rfl dX5_isHeldFor_48 ?_
  refine lv_iload_n hx hb dX5_isHeldFor_51 rfl (lv_at hl 1 rfl) ?_
  refine lv_aload_n hx hb dX5_isHeldFor_52 rfl (lv_at hl 0 rfl) ?_
  refine lv_iload_n hx hb dX5_isHeldFor_53 rfl (lv_at hl 1 rfl) ?_
  refine zc_r (va_runV (As := [.int i1]) (rest := [.int i1, .ref (ah 32)]) ⟨hx, hb, hml, hown, htB⟩ (c_X5_heldYards l D cy ah S_46 i1 h) (cwV 1 htB (zgV zm_345 zm_347 zm_348 zm_263 zm_346) rfl rfl rfl hd_X5_heldYards ⟨Nat.le_of_ble_eq_true rfl, Nat.le_of_ble_eq_true rfl⟩) ⟨zR_blind, va_recv hK hP (ci := 5) (q0 := 0) rfl rfl, zR_pre hP hK hN⟩ rfl rfl hl.1 rfl (lv_room (Nat.le_of_ble_eq_true rfl)) dX5_isHeldFor_54 ⟨Nat.zero_le _, Nat.zero_le _⟩) (fun r54 h => ?_)
  refine lv_aload_n hx hb dX5_isHeldFor_57 rfl (lv_at hl 0 rfl) ?_
  refine va_get (D := D) (ci := 5) (v := .ref (ah 4)) (C := RX5) (T := TX5) (N := 41) hx hb htB ziX5 hown hK hP 0 rfl rfl 4 (by decide) (htB _ zm_303) (fun _ h9 => h9) rfl dX5_isHeldFor_58 ?_
  refine lv_iload_n hx hb dX5_isHeldFor_61 rfl (lv_at hl 1 rfl) ?_
  refine va_iald (D := D) hx hb hK hP 5 0 rfl rfl (And.left h) dX5_isHeldFor_62 ?_
  replace h := And.right h
  refine lv_icmp_le (tgt := 70) hx hb dX5_isHeldFor_63 (by decide) (fun c63 => ?_) (fun c63 => ?_)
  · replace h := And.left h c63
    refine lv_iconst (v := (0 : Int32)) hx hb dX5_isHeldFor_70 (by decide) ?_
    exact L71 i1 (0 : Int32) S_46 h H locs hP hD hS ls (lv_sub hl [0] rfl)
  · replace h := And.right h c63
    refine lv_iload_n hx hb dX5_isHeldFor_66 rfl (lv_at hl 3 rfl) ?_
    refine lv_goto (tgt := 71) hx hb dX5_isHeldFor_67 (by decide) ?_
    exact L71 i1 i3 S_46 h H locs hP hD hS ls (lv_sub hl [0] rfl)
set_option maxHeartbeats 4000000 in
set_option maxRecDepth 100000 in
theorem c_X5_goes (l : Launch) (D : va_G) (cy : ClassId) (ah : Nat → Nat) (sz : Nat) (i1 : Int32) (S : zT) {Q : zT → Prop} (h : wp_X5_goes i1 S Q) : Met l yX5_goes w_X5_goes rm_X5_goes (va_Pc [.ref (ah 99), .int i1] (zM D cy (bX5 ah cy S) sz)) (va_Qv (S := zT) (fun (u : zT) => Q u) (fun u t => va_P D zCl ((fun (u : zT) => (bX5 ah cy u)) u) t.heap) (va_A (bX5 ah cy S) sz)) 0 0 (va_A (bX5 ah cy S) sz) := by
  refine zOf_v (by decide) (Nat.le_of_ble_eq_true rfl) ?_
  intro p e s m below meth c ls A H locs hx hb hr hml hown htB hlocks hK hN hP hD hS hA hl
  replace hl : lv_has ls 6 [(0, .ref (ah 99)), (1, .int i1)] := hl
  have L17 : ∀ (k17 : Nat) (x2 : Int32) (S : zT), wpl_X5_goes_17 i1 Q k17 x2 S → ∀ (H : Heap) (locs : List Loc), va_P D zCl (bX5 ah cy S) H → va_D A (bX5 ah cy S) → va_S A s.heap H locs → ∀ ls : Array Slot, lv_has ls 6 [(0, .ref (ah 99)), (2, .int x2)] → W p l e rm_X5_goes s m ([.ref (ah 99), .int i1] : List Value).toArray below meth c H locs 0 0 (MQ below (va_Qv (S := zT) (fun (u : zT) => Q u) (fun u t => va_P D zCl ((fun (u : zT) => (bX5 ah cy u)) u) t.heap) A) ([.ref (ah 99), .int i1] : List Value).toArray s 0 0 A) (F0 m 17 ls []) := by
    intro k17
    induction k17 with
    | zero => exact fun x2 S h => False.elim h
    | succ k17 ih17 =>
      have L135 : ∀ (x2 : Int32) (x3 : Int32) (S : zT), wpb_X5_goes_135 i1 Q (wpl_X5_goes_17 i1 Q k17) x2 x3 S → ∀ (H : Heap) (locs : List Loc), va_P D zCl (bX5 ah cy S) H → va_D A (bX5 ah cy S) → va_S A s.heap H locs → ∀ ls : Array Slot, lv_has ls 6 [(0, .ref (ah 99)), (2, .int x2), (3, .int x3)] → W p l e rm_X5_goes s m ([.ref (ah 99), .int i1] : List Value).toArray below meth c H locs 0 0 (MQ below (va_Qv (S := zT) (fun (u : zT) => Q u) (fun u t => va_P D zCl ((fun (u : zT) => (bX5 ah cy u)) u) t.heap) A) ([.ref (ah 99), .int i1] : List Value).toArray s 0 0 A) (F0 m 135 ls []) := by
        intro x2 x3 S h H locs hP hD hS ls hl
        refine lv_aload_n hx hb dX5_goes_135 rfl (lv_at hl 0 rfl) ?_
        refine lv_aload_n hx hb dX5_goes_136 rfl (lv_at hl 0 rfl) ?_
        refine va_get (D := D) (ci := 5) (v := .ref (ah 28)) (C := RX5) (T := TX5) (N := 41) hx hb htB ziX5 hown hK hP 0 rfl rfl 28 (by decide) (htB _ zm_364) (fun _ h9 => h9) rfl dX5_goes_137 ?_
        refine lv_iload_n hx hb dX5_goes_140 rfl (lv_at hl 2 rfl) ?_
        refine va_iald (D := D) hx hb hK hP 21 0 rfl rfl (And.left h) dX5_goes_141 ?_
        replace h := And.right h
        refine va_put (D := D) (ci := 5) (v := .int (S 28 x3.toNatClampNeg)) (ty := .int) (C := RX5) (T := TX5) (N := 41) hx hb htB ziX5 tyX5 tyX5_ok nmX5 hown hK hP hD hS 0 rfl rfl 35 (by decide) (htB _ zm_370) (fun _ h9 => h9) rfl (tyX5_ok 35 (by decide)) rfl rfl (Nat.le_of_ble_eq_true rfl) dX5_goes_142 (fun H locs hP hD hS => ?_)
        obtain ⟨S_142, eS_142⟩ : ∃ z : zT, z = (va_up S 35 (fun _ => (S 28 x3.toNatClampNeg))) := ⟨_, rfl⟩
        replace h := h S_142 eS_142
        replace hP : va_P D zCl (bX5 ah cy S_142) H := by rw [eS_142]; exact hP
        replace hD : va_D A (bX5 ah cy S_142) := by rw [eS_142]; exact hD
        refine lv_aload_n hx hb dX5_goes_145 rfl (lv_at hl 0 rfl) ?_
        refine va_get (D := D) (ci := 5) (v := .ref (ah 34)) (C := RX5) (T := TX5) (N := 41) hx hb htB ziX5 hown hK hP 0 rfl rfl 34 (by decide) (htB _ zm_372) (fun _ h9 => h9) rfl dX5_goes_146 ?_
        refine lv_aload_n hx hb dX5_goes_149 rfl (lv_at hl 0 rfl) ?_
        refine va_get (D := D) (ci := 5) (v := .int (S_142 37 0)) (C := RX5) (T := TX5) (N := 41) hx hb htB ziX5 hown hK hP 0 rfl rfl 37 (by decide) (htB _ zm_373) (fun _ h9 => h9) rfl dX5_goes_150 ?_
        refine lv_aload_n hx hb dX5_goes_153 rfl (lv_at hl 0 rfl) ?_
        refine va_get (D := D) (ci := 5) (v := .int (S_142 35 0)) (C := RX5) (T := TX5) (N := 41) hx hb htB ziX5 hown hK hP 0 rfl rfl 35 (by decide) (htB _ zm_370) (fun _ h9 => h9) rfl dX5_goes_154 ?_
        refine lv_aload_n hx hb dX5_goes_157 rfl (lv_at hl 0 rfl) ?_
        refine va_get (D := D) (ci := 5) (v := .ref (ah 8)) (C := RX5) (T := TX5) (N := 41) hx hb htB ziX5 hown hK hP 0 rfl rfl 8 (by decide) (htB _ zm_307) (fun _ h9 => h9) rfl dX5_goes_158 ?_
        refine lv_iconst (v := (0 : Int32)) hx hb dX5_goes_161 (by decide) ?_
        refine va_iald (D := D) hx hb hK hP 9 0 rfl rfl (And.left h) dX5_goes_162 ?_
        replace h := And.right h
        refine lv_iadd hx hb dX5_goes_163 ?_
        refine va_iast (D := D) hx hb hK hP hD hS 27 0 rfl rfl (And.left h) dX5_goes_164 (fun H locs hP hD hS => ?_)
        replace h := And.right h
        obtain ⟨S_164, eS_164⟩ : ∃ z : zT, z = (va_up S_142 34 (upd (S_142 34) (S_142 37 0).toNatClampNeg ((S_142 35 0) + (S_142 8 (0 : Int32).toNatClampNeg)))) := ⟨_, rfl⟩
        replace h := h S_164 eS_164
        replace hP : va_P D zCl (bX5 ah cy S_164) H := by rw [eS_164]; exact hP
        replace hD : va_D A (bX5 ah cy S_164) := by rw [eS_164]; exact hD
        refine lv_aload_n hx hb dX5_goes_165 rfl (lv_at hl 0 rfl) ?_
        refine lv_dup hx hb dX5_goes_166 rfl ?_
        refine va_get (D := D) (ci := 5) (v := .int (S_164 37 0)) (C := RX5) (T := TX5) (N := 41) hx hb htB ziX5 hown hK hP 0 rfl rfl 37 (by decide) (htB _ zm_373) (fun _ h9 => h9) rfl dX5_goes_167 ?_
        refine lv_iconst (v := (1 : Int32)) hx hb dX5_goes_170 (by decide) ?_
        refine lv_iadd hx hb dX5_goes_171 ?_
        refine va_put (D := D) (ci := 5) (v := .int ((S_164 37 0) + (1 : Int32))) (ty := .int) (C := RX5) (T := TX5) (N := 41) hx hb htB ziX5 tyX5 tyX5_ok nmX5 hown hK hP hD hS 0 rfl rfl 37 (by decide) (htB _ zm_373) (fun _ h9 => h9) rfl (tyX5_ok 37 (by decide)) rfl rfl (Nat.le_of_ble_eq_true rfl) dX5_goes_172 (fun H locs hP hD hS => ?_)
        obtain ⟨S_172, eS_172⟩ : ∃ z : zT, z = (va_up S_164 37 (fun _ => ((S_164 37 0) + (1 : Int32)))) := ⟨_, rfl⟩
        replace h := h S_172 eS_172
        replace hP : va_P D zCl (bX5 ah cy S_172) H := by rw [eS_172]; exact hP
        replace hD : va_D A (bX5 ah cy S_172) := by rw [eS_172]; exact hD
        refine lv_goto (tgt := 17) hx hb dX5_goes_175 (by decide) ?_
        exact ih17 x2 S_172 h H locs hP hD hS ls (lv_sub hl [0, 1] rfl)
      have L50 : ∀ (k50 : Nat) (x2 : Int32) (x3 : Int32) (x4 : Int32) (S : zT), wpl_X5_goes_50 i1 Q (wpl_X5_goes_17 i1 Q k17) k50 x2 x3 x4 S → ∀ (H : Heap) (locs : List Loc), va_P D zCl (bX5 ah cy S) H → va_D A (bX5 ah cy S) → va_S A s.heap H locs → ∀ ls : Array Slot, lv_has ls 6 [(0, .ref (ah 99)), (2, .int x2), (3, .int x3), (4, .int x4)] → W p l e rm_X5_goes s m ([.ref (ah 99), .int i1] : List Value).toArray below meth c H locs 0 0 (MQ below (va_Qv (S := zT) (fun (u : zT) => Q u) (fun u t => va_P D zCl ((fun (u : zT) => (bX5 ah cy u)) u) t.heap) A) ([.ref (ah 99), .int i1] : List Value).toArray s 0 0 A) (F0 m 50 ls []) := by
        intro k50
        induction k50 with
        | zero => exact fun x2 x3 x4 S h => False.elim h
        | succ k50 ih50 =>
          have L132 : ∀ (x2 : Int32) (x3 : Int32) (x4 : Int32) (S : zT), wpb_X5_goes_132 i1 Q (wpl_X5_goes_50 i1 Q (wpl_X5_goes_17 i1 Q k17) k50) (wpl_X5_goes_17 i1 Q k17) x2 x3 x4 S → ∀ (H : Heap) (locs : List Loc), va_P D zCl (bX5 ah cy S) H → va_D A (bX5 ah cy S) → va_S A s.heap H locs → ∀ ls : Array Slot, lv_has ls 6 [(0, .ref (ah 99)), (2, .int x2), (3, .int x3), (4, .int x4)] → W p l e rm_X5_goes s m ([.ref (ah 99), .int i1] : List Value).toArray below meth c H locs 0 0 (MQ below (va_Qv (S := zT) (fun (u : zT) => Q u) (fun u t => va_P D zCl ((fun (u : zT) => (bX5 ah cy u)) u) t.heap) A) ([.ref (ah 99), .int i1] : List Value).toArray s 0 0 A) (F0 m 132 ls []) := by
            intro x2 x3 x4 S h H locs hP hD hS ls hl
            refine lv_goto (tgt := 50) hx hb dX5_goes_132 (by decide) ?_
            exact ih50 x2 x3 x4 S h H locs hP hD hS ls (lv_sub hl [0, 1, 2, 3] rfl)
          have L113 : ∀ (x2 : Int32) (x3 : Int32) (x5 : Int32) (t0 : Int32) (S : zT), wpb_X5_goes_113 i1 Q (wpl_X5_goes_50 i1 Q (wpl_X5_goes_17 i1 Q k17) k50) (wpl_X5_goes_17 i1 Q k17) x2 x3 x5 t0 S → ∀ (H : Heap) (locs : List Loc), va_P D zCl (bX5 ah cy S) H → va_D A (bX5 ah cy S) → va_S A s.heap H locs → ∀ ls : Array Slot, lv_has ls 6 [(0, .ref (ah 99)), (2, .int x2), (3, .int x3), (5, .int x5)] → W p l e rm_X5_goes s m ([.ref (ah 99), .int i1] : List Value).toArray below meth c H locs 0 0 (MQ below (va_Qv (S := zT) (fun (u : zT) => Q u) (fun u t => va_P D zCl ((fun (u : zT) => (bX5 ah cy u)) u) t.heap) A) ([.ref (ah 99), .int i1] : List Value).toArray s 0 0 A) (F0 m 113 ls [.int t0]) := by
            intro x2 x3 x5 t0 S h H locs hP hD hS ls hl
            refine lv_istore (lv' := [(4, .int t0), (0, .ref (ah 99)), (2, .int x2), (3, .int x3), (5, .int x5)]) hx hb dX5_goes_113 hl (by decide) rfl (fun ls hl => ?_)
            refine lv_iload hx hb dX5_goes_115 (lv_at hl 0 rfl) ?_
            refine lv_if_le (tgt := 132) hx hb dX5_goes_117 (by decide) (fun c117 => ?_) (fun c117 => ?_)
            · replace h := And.left h c117
              exact L132 x2 x3 t0 S h H locs hP hD hS ls (lv_sub hl [1, 2, 3, 0] rfl)
            · replace h := And.right h c117
              refine lv_aload_n hx hb dX5_goes_120 rfl (lv_at hl 1 rfl) ?_
              refine lv_iload hx hb dX5_goes_121 (lv_at hl 4 rfl) ?_
              refine lv_iload_n hx hb dX5_goes_123 rfl (lv_at hl 3 rfl) ?_
              refine lv_iload hx hb dX5_goes_124 (lv_at hl 0 rfl) ?_
              refine zc_vf (ws' := fun u => (bX5 ah cy u)) (va_runV (As := [.int x5, .int x3, .int t0]) (rest := []) ⟨hx, hb, hml, hown, htB⟩ (c_X5_isHeldFor l D cy ah H.size x5 x3 t0 S h) (cwV 3 htB (zgV zm_374 zm_376 zm_377 zm_263 zm_375) rfl rfl rfl hd_X5_isHeldFor ⟨Nat.le_of_ble_eq_true rfl, Nat.le_of_ble_eq_true rfl⟩) ⟨zM_blind, va_recv hK hP (ci := 5) (q0 := 0) rfl rfl, zM_pre hP hK hN hD⟩ rfl rfl hl.1 rfl (lv_room (Nat.le_of_ble_eq_true rfl)) dX5_goes_126 ⟨Nat.zero_le _, Nat.zero_le _⟩) hS hA hP hD (fun u => rfl) (fun u => rfl) (fun u H locs h hP hD hS => ?_)
              obtain ⟨S_126, eu⟩ : ∃ z, z = u := ⟨_, rfl⟩
              subst eu
              replace hP : va_P D zCl (bX5 ah cy S_126) H := hP
              replace hD : va_D A (bX5 ah cy S_126) := hD
              refine lv_iload hx hb dX5_goes_129 (lv_at hl 4 rfl) ?_
              refine lv_istore_n (lv' := [(3, .int x5), (4, .int t0), (0, .ref (ah 99)), (2, .int x2), (5, .int x5)]) hx hb dX5_goes_131 rfl hl (by decide) rfl (fun ls hl => ?_)
              exact L132 x2 x5 t0 S_126 h H locs hP hD hS ls (lv_sub hl [2, 3, 0, 1] rfl)
          intro x2 x3 x4 S h H locs hP hD hS ls hl
          refine lv_iload hx hb dX5_goes_50 (lv_at hl 3 rfl) ?_
          refine lv_if_le (tgt := 135) hx hb dX5_goes_52 (by decide) (fun c52 => ?_) (fun c52 => ?_)
          · replace h := And.left h c52
            exact L135 x2 x3 S h H locs hP hD hS ls (lv_sub hl [0, 1, 2] rfl)
          · replace h := And.right h c52
            refine lv_aload_n hx hb dX5_goes_55 rfl (lv_at hl 0 rfl) ?_
            refine va_get (D := D) (ci := 5) (v := .ref (ah 30)) (C := RX5) (T := TX5) (N := 41) hx hb htB ziX5 hown hK hP 0 rfl rfl 30 (by decide) (htB _ zm_371) (fun _ h9 => h9) rfl dX5_goes_56 ?_
            refine lv_iload_n hx hb dX5_goes_59 rfl (lv_at hl 2 rfl) ?_
            refine lv_iconst (v := (0 : Int32)) hx hb dX5_goes_60 (by decide) ?_
            refine va_iast (D := D) hx hb hK hP hD hS 23 0 rfl rfl (And.left h) dX5_goes_61 (fun H locs hP hD hS => ?_)
            replace h := And.right h
            obtain ⟨S_61, eS_61⟩ : ∃ z : zT, z = (va_up S 30 (upd (S 30) x3.toNatClampNeg (0 : Int32))) := ⟨_, rfl⟩
            replace h := h S_61 eS_61
            replace hP : va_P D zCl (bX5 ah cy S_61) H := by rw [eS_61]; exact hP
            replace hD : va_D A (bX5 ah cy S_61) := by rw [eS_61]; exact hD
            refine lv_aload_n hx hb dX5_goes_62 rfl (lv_at hl 0 rfl) ?_
            refine va_get (D := D) (ci := 5) (v := .ref (ah 26)) (C := RX5) (T := TX5) (N := 41) hx hb htB ziX5 hown hK hP 0 rfl rfl 26 (by decide) (htB _ zm_378) (fun _ h9 => h9) rfl dX5_goes_63 ?_
            refine lv_aload_n hx hb dX5_goes_66 rfl (lv_at hl 0 rfl) ?_
            refine va_get (D := D) (ci := 5) (v := .int (S_61 36 0)) (C := RX5) (T := TX5) (N := 41) hx hb htB ziX5 hown hK hP 0 rfl rfl 36 (by decide) (htB _ zm_369) (fun _ h9 => h9) rfl dX5_goes_67 ?_
            refine lv_iload_n hx hb dX5_goes_70 rfl (lv_at hl 2 rfl) ?_
            refine va_iast (D := D) hx hb hK hP hD hS 19 0 rfl rfl (And.left h) dX5_goes_71 (fun H locs hP hD hS => ?_)
            replace h := And.right h
            obtain ⟨S_71, eS_71⟩ : ∃ z : zT, z = (va_up S_61 26 (upd (S_61 26) (S_61 36 0).toNatClampNeg x3)) := ⟨_, rfl⟩
            replace h := h S_71 eS_71
            replace hP : va_P D zCl (bX5 ah cy S_71) H := by rw [eS_71]; exact hP
            replace hD : va_D A (bX5 ah cy S_71) := by rw [eS_71]; exact hD
            refine lv_aload_n hx hb dX5_goes_72 rfl (lv_at hl 0 rfl) ?_
            refine lv_dup hx hb dX5_goes_73 rfl ?_
            refine va_get (D := D) (ci := 5) (v := .int (S_71 36 0)) (C := RX5) (T := TX5) (N := 41) hx hb htB ziX5 hown hK hP 0 rfl rfl 36 (by decide) (htB _ zm_369) (fun _ h9 => h9) rfl dX5_goes_74 ?_
            refine lv_iconst (v := (1 : Int32)) hx hb dX5_goes_77 (by decide) ?_
            refine lv_iadd hx hb dX5_goes_78 ?_
            refine va_put (D := D) (ci := 5) (v := .int ((S_71 36 0) + (1 : Int32))) (ty := .int) (C := RX5) (T := TX5) (N := 41) hx hb htB ziX5 tyX5 tyX5_ok nmX5 hown hK hP hD hS 0 rfl rfl 36 (by decide) (htB _ zm_369) (fun _ h9 => h9) rfl (tyX5_ok 36 (by decide)) rfl rfl (Nat.le_of_ble_eq_true rfl) dX5_goes_79 (fun H locs hP hD hS => ?_)
            obtain ⟨S_79, eS_79⟩ : ∃ z : zT, z = (va_up S_71 36 (fun _ => ((S_71 36 0) + (1 : Int32)))) := ⟨_, rfl⟩
            replace h := h S_79 eS_79
            replace hP : va_P D zCl (bX5 ah cy S_79) H := by rw [eS_79]; exact hP
            replace hD : va_D A (bX5 ah cy S_79) := by rw [eS_79]; exact hD
            refine lv_iload_n hx hb dX5_goes_82 rfl (lv_at hl 1 rfl) ?_
            refine lv_iconst (v := (1 : Int32)) hx hb dX5_goes_83 (by decide) ?_
            refine lv_iload_n hx hb dX5_goes_84 rfl (lv_at hl 2 rfl) ?_
            refine lv_ishl hx hb dX5_goes_85 ?_
            refine lv_iconst (v := (-1 : Int32)) hx hb dX5_goes_86 (by decide) ?_
            refine lv_ixor hx hb dX5_goes_87 ?_
            refine lv_iand hx hb dX5_goes_88 ?_
            refine lv_topi (fun y89 ey89 => ?_)
            replace h := h y89 ey89
            refine lv_istore_n (lv' := [(2, .int y89), (0, .ref (ah 99)), (3, .int x3), (4, .int x4)]) hx hb dX5_goes_89 rfl hl (by decide) rfl (fun ls hl => ?_)
            refine lv_aload_n hx hb dX5_goes_90 rfl (lv_at hl 1 rfl) ?_
            refine lv_iload_n hx hb dX5_goes_91 rfl (lv_at hl 0 rfl) ?_
            refine zc_r (va_runV (As := [.int y89]) (rest := []) ⟨hx, hb, hml, hown, htB⟩ (c_X5_firstOf l D cy ah S_79 y89 h) (cwV 1 htB (zgV zm_379 zm_381 zm_382 zm_263 zm_380) rfl rfl rfl hd_X5_firstOf ⟨Nat.le_of_ble_eq_true rfl, Nat.le_of_ble_eq_true rfl⟩) ⟨zR_blind, va_recv hK hP (ci := 5) (q0 := 0) rfl rfl, zR_pre hP hK hN⟩ rfl rfl hl.1 rfl (lv_room (Nat.le_of_ble_eq_true rfl)) dX5_goes_92 ⟨Nat.zero_le _, Nat.zero_le _⟩) (fun r92 h => ?_)
            refine lv_istore (lv' := [(5, .int r92), (2, .int y89), (0, .ref (ah 99)), (3, .int x3), (4, .int x4)]) hx hb dX5_goes_95 hl (by decide) rfl (fun ls hl => ?_)
            refine lv_iload hx hb dX5_goes_97 (lv_at hl 0 rfl) ?_
            refine lv_if_ge (tgt := 106) hx hb dX5_goes_99 (by decide) (fun c99 => ?_) (fun c99 => ?_)
            · replace h := And.left h c99
              refine lv_aload_n hx hb dX5_goes_106 rfl (lv_at hl 2 rfl) ?_
              refine lv_iload_n hx hb dX5_goes_107 rfl (lv_at hl 3 rfl) ?_
              refine lv_iload hx hb dX5_goes_108 (lv_at hl 0 rfl) ?_
              refine zc_r (va_runV (As := [.int x3, .int r92]) (rest := []) ⟨hx, hb, hml, hown, htB⟩ (c_X5_holdsFor l D cy ah S_79 x3 r92 h) (cwV 2 htB (zgV zm_383 zm_385 zm_386 zm_263 zm_384) rfl rfl rfl hd_X5_holdsFor ⟨Nat.le_of_ble_eq_true rfl, Nat.le_of_ble_eq_true rfl⟩) ⟨zR_blind, va_recv hK hP (ci := 5) (q0 := 0) rfl rfl, zR_pre hP hK hN⟩ rfl rfl hl.1 rfl (lv_room (Nat.le_of_ble_eq_true rfl)) dX5_goes_110 ⟨Nat.zero_le _, Nat.zero_le _⟩) (fun r110 h => ?_)
              exact L113 y89 x3 r92 r110 S_79 h H locs hP hD hS ls (lv_sub hl [2, 1, 3, 0] rfl)
            · replace h := And.right h c99
              refine lv_iconst (v := (0 : Int32)) hx hb dX5_goes_102 (by decide) ?_
              refine lv_goto (tgt := 113) hx hb dX5_goes_103 (by decide) ?_
              exact L113 y89 x3 r92 (0 : Int32) S_79 h H locs hP hD hS ls (lv_sub hl [2, 1, 3, 0] rfl)
      intro x2 S h H locs hP hD hS ls hl
      refine lv_iload_n hx hb dX5_goes_17 rfl (lv_at hl 1 rfl) ?_
      refine lv_if_eq (tgt := 178) hx hb dX5_goes_18 (by decide) (fun c18 => ?_) (fun c18 => ?_)
      · replace h := And.left h c18
        exact W.vret hx hb hr (fun t ht hW => ⟨⟨S, rfl, h, zP_h ht hP⟩, hS.F ht⟩) hS.2.2 dX5_goes_178
      · replace h := And.right h c18
        refine lv_aload_n hx hb dX5_goes_21 rfl (lv_at hl 0 rfl) ?_
        refine lv_iload_n hx hb dX5_goes_22 rfl (lv_at hl 1 rfl) ?_
        refine zc_r (va_runV (As := [.int x2]) (rest := []) ⟨hx, hb, hml, hown, htB⟩ (c_X5_firstOf l D cy ah S x2 h) (cwV 1 htB (zgV zm_379 zm_381 zm_382 zm_263 zm_380) rfl rfl rfl hd_X5_firstOf ⟨Nat.le_of_ble_eq_true rfl, Nat.le_of_ble_eq_true rfl⟩) ⟨zR_blind, va_recv hK hP (ci := 5) (q0 := 0) rfl rfl, zR_pre hP hK hN⟩ rfl rfl hl.1 rfl (lv_room (Nat.le_of_ble_eq_true rfl)) dX5_goes_23 ⟨Nat.zero_le _, Nat.zero_le _⟩) (fun r23 h => ?_)
        refine lv_istore_n (lv' := [(3, .int r23), (0, .ref (ah 99)), (2, .int x2)]) hx hb dX5_goes_26 rfl hl (by decide) rfl (fun ls hl => ?_)
        refine lv_aload_n hx hb dX5_goes_27 rfl (lv_at hl 1 rfl) ?_
        refine lv_iload_n hx hb dX5_goes_28 rfl (lv_at hl 0 rfl) ?_
        refine zc_vf (ws' := fun u => (bX5 ah cy u)) (va_runV (As := [.int r23]) (rest := []) ⟨hx, hb, hml, hown, htB⟩ (c_X5_opensFor l D cy ah H.size r23 S h) (cwV 1 htB (zgV zm_387 zm_389 zm_390 zm_263 zm_388) rfl rfl rfl hd_X5_opensFor ⟨Nat.le_of_ble_eq_true rfl, Nat.le_of_ble_eq_true rfl⟩) ⟨zM_blind, va_recv hK hP (ci := 5) (q0 := 0) rfl rfl, zM_pre hP hK hN hD⟩ rfl rfl hl.1 rfl (lv_room (Nat.le_of_ble_eq_true rfl)) dX5_goes_29 ⟨Nat.zero_le _, Nat.zero_le _⟩) hS hA hP hD (fun u => rfl) (fun u => rfl) (fun u H locs h hP hD hS => ?_)
        obtain ⟨S_29, eu⟩ : ∃ z, z = u := ⟨_, rfl⟩
        subst eu
        replace hP : va_P D zCl (bX5 ah cy S_29) H := hP
        replace hD : va_D A (bX5 ah cy S_29) := hD
        refine lv_aload_n hx hb dX5_goes_32 rfl (lv_at hl 1 rfl) ?_
        refine va_get (D := D) (ci := 5) (v := .ref (ah 33)) (C := RX5) (T := TX5) (N := 41) hx hb htB ziX5 hown hK hP 0 rfl rfl 33 (by decide) (htB _ zm_391) (fun _ h9 => h9) rfl dX5_goes_33 ?_
        refine lv_aload_n hx hb dX5_goes_36 rfl (lv_at hl 1 rfl) ?_
        refine va_get (D := D) (ci := 5) (v := .int (S_29 37 0)) (C := RX5) (T := TX5) (N := 41) hx hb htB ziX5 hown hK hP 0 rfl rfl 37 (by decide) (htB _ zm_373) (fun _ h9 => h9) rfl dX5_goes_37 ?_
        refine lv_aload_n hx hb dX5_goes_40 rfl (lv_at hl 1 rfl) ?_
        refine va_get (D := D) (ci := 5) (v := .ref (ah 27)) (C := RX5) (T := TX5) (N := 41) hx hb htB ziX5 hown hK hP 0 rfl rfl 27 (by decide) (htB _ zm_366) (fun _ h9 => h9) rfl dX5_goes_41 ?_
        refine lv_iload_n hx hb dX5_goes_44 rfl (lv_at hl 0 rfl) ?_
        refine va_iald (D := D) hx hb hK hP 20 0 rfl rfl (And.left h) dX5_goes_45 ?_
        replace h := And.right h
        refine va_iast (D := D) hx hb hK hP hD hS 26 0 rfl rfl (And.left h) dX5_goes_46 (fun H locs hP hD hS => ?_)
        replace h := And.right h
        obtain ⟨S_46, eS_46⟩ : ∃ z : zT, z = (va_up S_29 33 (upd (S_29 33) (S_29 37 0).toNatClampNeg (S_29 27 r23.toNatClampNeg))) := ⟨_, rfl⟩
        replace h := h S_46 eS_46
        replace hP : va_P D zCl (bX5 ah cy S_46) H := by rw [eS_46]; exact hP
        replace hD : va_D A (bX5 ah cy S_46) := by rw [eS_46]; exact hD
        refine lv_iconst (v := (1 : Int32)) hx hb dX5_goes_47 (by decide) ?_
        refine lv_istore (lv' := [(4, .int (1 : Int32)), (3, .int r23), (0, .ref (ah 99)), (2, .int x2)]) hx hb dX5_goes_48 hl (by decide) rfl (fun ls hl => ?_)
        obtain ⟨nn, h⟩ := h
        exact L50 nn x2 r23 (1 : Int32) S_46 h H locs hP hD hS ls (lv_sub hl [2, 3, 1, 0] rfl)
  refine lv_iload_n hx hb dX5_goes_0 rfl (lv_at hl 1 rfl) ?_
  refine lv_istore_n (lv' := [(2, .int i1), (0, .ref (ah 99)), (1, .int i1)]) hx hb dX5_goes_1 rfl hl (by decide) rfl (fun ls hl => ?_)
  refine lv_aload_n hx hb dX5_goes_2 rfl (lv_at hl 1 rfl) ?_
  refine lv_iconst (v := (0 : Int32)) hx hb dX5_goes_3 (by decide) ?_
  refine va_put (D := D) (ci := 5) (v := .int (0 : Int32)) (ty := .int) (C := RX5) (T := TX5) (N := 41) hx hb htB ziX5 tyX5 tyX5_ok nmX5 hown hK hP hD hS 0 rfl rfl 35 (by decide) (htB _ zm_370) (fun _ h9 => h9) rfl (tyX5_ok 35 (by decide)) rfl rfl (Nat.le_of_ble_eq_true rfl) dX5_goes_4 (fun H locs hP hD hS => ?_)
  obtain ⟨S_4, eS_4⟩ : ∃ z : zT, z = (va_up S 35 (fun _ => (0 : Int32))) := ⟨_, rfl⟩
  replace h := h S_4 eS_4
  replace hP : va_P D zCl (bX5 ah cy S_4) H := by rw [eS_4]; exact hP
  replace hD : va_D A (bX5 ah cy S_4) := by rw [eS_4]; exact hD
  refine lv_aload_n hx hb dX5_goes_7 rfl (lv_at hl 1 rfl) ?_
  refine lv_iconst (v := (0 : Int32)) hx hb dX5_goes_8 (by decide) ?_
  refine va_put (D := D) (ci := 5) (v := .int (0 : Int32)) (ty := .int) (C := RX5) (T := TX5) (N := 41) hx hb htB ziX5 tyX5 tyX5_ok nmX5 hown hK hP hD hS 0 rfl rfl 36 (by decide) (htB _ zm_369) (fun _ h9 => h9) rfl (tyX5_ok 36 (by decide)) rfl rfl (Nat.le_of_ble_eq_true rfl) dX5_goes_9 (fun H locs hP hD hS => ?_)
  obtain ⟨S_9, eS_9⟩ : ∃ z : zT, z = (va_up S_4 36 (fun _ => (0 : Int32))) := ⟨_, rfl⟩
  replace h := h S_9 eS_9
  replace hP : va_P D zCl (bX5 ah cy S_9) H := by rw [eS_9]; exact hP
  replace hD : va_D A (bX5 ah cy S_9) := by rw [eS_9]; exact hD
  refine lv_aload_n hx hb dX5_goes_12 rfl (lv_at hl 1 rfl) ?_
  refine lv_iconst (v := (0 : Int32)) hx hb dX5_goes_13 (by decide) ?_
  refine va_put (D := D) (ci := 5) (v := .int (0 : Int32)) (ty := .int) (C := RX5) (T := TX5) (N := 41) hx hb htB ziX5 tyX5 tyX5_ok nmX5 hown hK hP hD hS 0 rfl rfl 37 (by decide) (htB _ zm_373) (fun _ h9 => h9) rfl (tyX5_ok 37 (by decide)) rfl rfl (Nat.le_of_ble_eq_true rfl) dX5_goes_14 (fun H locs hP hD hS => ?_)
  obtain ⟨S_14, eS_14⟩ : ∃ z : zT, z = (va_up S_9 37 (fun _ => (0 : Int32))) := ⟨_, rfl⟩
  replace h := h S_14 eS_14
  replace hP : va_P D zCl (bX5 ah cy S_14) H := by rw [eS_14]; exact hP
  replace hD : va_D A (bX5 ah cy S_14) := by rw [eS_14]; exact hD
  obtain ⟨nn, h⟩ := h
  exact L17 nn i1 S_14 h H locs hP hD hS ls (lv_sub hl [1, 0] rfl)
set_option maxHeartbeats 4000000 in
set_option maxRecDepth 100000 in
theorem c_X5_goesAll (l : Launch) (D : va_G) (cy : ClassId) (ah : Nat → Nat) (sz : Nat) (S : zT) {Q : zT → Prop} (h : wp_X5_goesAll S Q) : Met l yX5_goesAll w_X5_goesAll rm_X5_goesAll (va_Pc [.ref (ah 99)] (zM D cy (bX5 ah cy S) sz)) (va_Qv (S := zT) (fun (u : zT) => Q u) (fun u t => va_P D zCl ((fun (u : zT) => (bX5 ah cy u)) u) t.heap) (va_A (bX5 ah cy S) sz)) 0 0 (va_A (bX5 ah cy S) sz) := by
  refine zOf_v (by decide) (Nat.le_of_ble_eq_true rfl) ?_
  intro p e s m below meth c ls A H locs hx hb hr hml hown htB hlocks hK hN hP hD hS hA hl
  replace hl : lv_has ls 1 [(0, .ref (ah 99))] := hl
  refine lv_aload_n hx hb dX5_goesAll_0 rfl (lv_at hl 0 rfl) ?_
  refine lv_iconst (v := (1 : Int32)) hx hb dX5_goesAll_1 (by decide) ?_
  refine lv_aload_n hx hb dX5_goesAll_2 rfl (lv_at hl 0 rfl) ?_
  refine va_get (D := D) (ci := 5) (v := .int (S 13 0)) (C := RX5) (T := TX5) (N := 41) hx hb htB ziX5 hown hK hP 0 rfl rfl 13 (by decide) (htB _ zm_258) (fun _ h9 => h9) rfl dX5_goesAll_3 ?_
  refine lv_ishl hx hb dX5_goesAll_6 ?_
  refine lv_iconst (v := (1 : Int32)) hx hb dX5_goesAll_7 (by decide) ?_
  refine lv_isub hx hb dX5_goesAll_8 ?_
  refine zc_vf (ws' := fun u => (bX5 ah cy u)) (va_runV (As := [.int (((1 : Int32) <<< ((S 13 0) &&& 31)) - (1 : Int32))]) (rest := []) ⟨hx, hb, hml, hown, htB⟩ (c_X5_goes l D cy ah H.size (((1 : Int32) <<< ((S 13 0) &&& 31)) - (1 : Int32)) S h) (cwV 1 htB (zgV zm_392 zm_394 zm_395 zm_263 zm_393) rfl rfl rfl hd_X5_goes ⟨Nat.le_of_ble_eq_true rfl, Nat.le_of_ble_eq_true rfl⟩) ⟨zM_blind, va_recv hK hP (ci := 5) (q0 := 0) rfl rfl, zM_pre hP hK hN hD⟩ rfl rfl hl.1 rfl (lv_room (Nat.le_of_ble_eq_true rfl)) dX5_goesAll_9 ⟨Nat.zero_le _, Nat.zero_le _⟩) hS hA hP hD (fun u => rfl) (fun u => rfl) (fun u H locs h hP hD hS => ?_)
  obtain ⟨S_9, eu⟩ : ∃ z, z = u := ⟨_, rfl⟩
  subst eu
  replace hP : va_P D zCl (bX5 ah cy S_9) H := hP
  replace hD : va_D A (bX5 ah cy S_9) := hD
  exact W.vret hx hb hr (fun t ht hW => ⟨⟨S_9, rfl, h, zP_h ht hP⟩, hS.F ht⟩) hS.2.2 dX5_goesAll_12
set_option maxHeartbeats 4000000 in
set_option maxRecDepth 100000 in
theorem c_X5_lossOf (l : Launch) (D : va_G) (cy : ClassId) (ah : Nat → Nat) (S : zT) (i1 : Int32) {Q : Int32 → Prop} (h : wp_X5_lossOf S i1 Q) : Met l yX5_lossOf w_X5_lossOf rm_X5_lossOf (va_Pc [.ref (ah 99), .int i1] (zR D cy (bX5 ah cy S))) (vp_Si Q) 0 0 (fun _ => False) := by
  refine zOf_r (by decide) (Nat.le_of_ble_eq_true rfl) ?_
  intro p e s m below meth c ls hx hb hr hml hown htB hlocks hK hN hP hl
  replace hl : lv_has ls 2 [(0, .ref (ah 99)), (1, .int i1)] := hl
  refine lv_aload_n hx hb dX5_lossOf_0 rfl (lv_at hl 0 rfl) ?_
  refine va_get (D := D) (ci := 5) (v := .ref (ah 7)) (C := RX5) (T := TX5) (N := 41) hx hb htB ziX5 hown hK hP 0 rfl rfl 7 (by decide) (htB _ zm_306) (fun _ h9 => h9) rfl dX5_lossOf_1 ?_
  refine lv_iload_n hx hb dX5_lossOf_4 rfl (lv_at hl 1 rfl) ?_
  refine va_iald (D := D) hx hb hK hP 8 0 rfl rfl (And.left h) dX5_lossOf_5 ?_
  replace h := And.right h
  refine lv_aload_n hx hb dX5_lossOf_6 rfl (lv_at hl 0 rfl) ?_
  refine va_get (D := D) (ci := 5) (v := .ref (ah 29)) (C := RX5) (T := TX5) (N := 41) hx hb htB ziX5 hown hK hP 0 rfl rfl 29 (by decide) (htB _ zm_367) (fun _ h9 => h9) rfl dX5_lossOf_7 ?_
  refine lv_iload_n hx hb dX5_lossOf_10 rfl (lv_at hl 1 rfl) ?_
  refine va_iald (D := D) hx hb hK hP 22 0 rfl rfl (And.left h) dX5_lossOf_11 ?_
  replace h := And.right h
  refine lv_aload_n hx hb dX5_lossOf_12 rfl (lv_at hl 0 rfl) ?_
  refine va_get (D := D) (ci := 5) (v := .ref (ah 30)) (C := RX5) (T := TX5) (N := 41) hx hb htB ziX5 hown hK hP 0 rfl rfl 30 (by decide) (htB _ zm_371) (fun _ h9 => h9) rfl dX5_lossOf_13 ?_
  refine lv_iload_n hx hb dX5_lossOf_16 rfl (lv_at hl 1 rfl) ?_
  refine va_iald (D := D) hx hb hK hP 23 0 rfl rfl (And.left h) dX5_lossOf_17 ?_
  replace h := And.right h
  refine lv_iadd hx hb dX5_lossOf_18 ?_
  refine lv_imul hx hb dX5_lossOf_19 ?_
  refine lv_aload_n hx hb dX5_lossOf_20 rfl (lv_at hl 0 rfl) ?_
  refine va_get (D := D) (ci := 5) (v := .ref (ah 32)) (C := RX5) (T := TX5) (N := 41) hx hb htB ziX5 hown hK hP 0 rfl rfl 32 (by decide) (htB _ zm_368) (fun _ h9 => h9) rfl dX5_lossOf_21 ?_
  refine lv_iload_n hx hb dX5_lossOf_24 rfl (lv_at hl 1 rfl) ?_
  refine va_iald (D := D) hx hb hK hP 25 0 rfl rfl (And.left h) dX5_lossOf_25 ?_
  replace h := And.right h
  refine lv_iadd hx hb dX5_lossOf_26 ?_
  exact W.iret (v := (((S 7 i1.toNatClampNeg) * ((S 29 i1.toNatClampNeg) + (S 30 i1.toNatClampNeg))) + (S 32 i1.toNatClampNeg))) hx hb hr (fun t ht hW => ⟨_, rfl, h, ht⟩) (fun q hq => by cases hq) dX5_lossOf_27
set_option maxHeartbeats 4000000 in
set_option maxRecDepth 100000 in
theorem c_X5_lossOfAll (l : Launch) (D : va_G) (cy : ClassId) (ah : Nat → Nat) (S : zT) {Q : Int32 → Prop} (h : wp_X5_lossOfAll S Q) : Met l yX5_lossOfAll w_X5_lossOfAll rm_X5_lossOfAll (va_Pc [.ref (ah 99)] (zR D cy (bX5 ah cy S))) (vp_Si Q) 0 0 (fun _ => False) := by
  refine zOf_r (by decide) (Nat.le_of_ble_eq_true rfl) ?_
  intro p e s m below meth c ls hx hb hr hml hown htB hlocks hK hN hP hl
  replace hl : lv_has ls 3 [(0, .ref (ah 99))] := hl
  have L4 : ∀ (k4 : Nat) (x1 : Int32) (x2 : Int32), wpl_X5_lossOfAll_4 S Q k4 x1 x2 → ∀ ls : Array Slot, lv_has ls 3 [(0, .ref (ah 99)), (1, .int x1), (2, .int x2)] → W p l e rm_X5_lossOfAll s m ([.ref (ah 99)] : List Value).toArray below meth c s.heap [] 0 0 (MQ below (vp_Si Q) ([.ref (ah 99)] : List Value).toArray s 0 0 (fun _ => False)) (F0 m 4 ls []) := by
    intro k4
    induction k4 with
    | zero => exact fun x1 x2 h => False.elim h
    | succ k4 ih4 =>
      intro x1 x2 h ls hl
      refine lv_iload_n hx hb dX5_lossOfAll_4 rfl (lv_at hl 2 rfl) ?_
      refine lv_aload_n hx hb dX5_lossOfAll_5 rfl (lv_at hl 0 rfl) ?_
      refine va_get (D := D) (ci := 5) (v := .int (S 36 0)) (C := RX5) (T := TX5) (N := 41) hx hb htB ziX5 hown hK hP 0 rfl rfl 36 (by decide) (htB _ zm_369) (fun _ h9 => h9) rfl dX5_lossOfAll_6 ?_
      refine lv_icmp_ge (tgt := 31) hx hb dX5_lossOfAll_9 (by decide) (fun c9 => ?_) (fun c9 => ?_)
      · replace h := And.left h c9
        refine lv_iload_n hx hb dX5_lossOfAll_31 rfl (lv_at hl 1 rfl) ?_
        exact W.iret (v := x1) hx hb hr (fun t ht hW => ⟨_, rfl, h, ht⟩) (fun q hq => by cases hq) dX5_lossOfAll_32
      · replace h := And.right h c9
        refine lv_iload_n hx hb dX5_lossOfAll_12 rfl (lv_at hl 1 rfl) ?_
        refine lv_aload_n hx hb dX5_lossOfAll_13 rfl (lv_at hl 0 rfl) ?_
        refine lv_aload_n hx hb dX5_lossOfAll_14 rfl (lv_at hl 0 rfl) ?_
        refine va_get (D := D) (ci := 5) (v := .ref (ah 26)) (C := RX5) (T := TX5) (N := 41) hx hb htB ziX5 hown hK hP 0 rfl rfl 26 (by decide) (htB _ zm_378) (fun _ h9 => h9) rfl dX5_lossOfAll_15 ?_
        refine lv_iload_n hx hb dX5_lossOfAll_18 rfl (lv_at hl 2 rfl) ?_
        refine va_iald (D := D) hx hb hK hP 19 0 rfl rfl (And.left h) dX5_lossOfAll_19 ?_
        replace h := And.right h
        refine zc_r (va_runV (As := [.int (S 26 x2.toNatClampNeg)]) (rest := [.int x1]) ⟨hx, hb, hml, hown, htB⟩ (c_X5_lossOf l D cy ah S (S 26 x2.toNatClampNeg) h) (cwV 1 htB (zgV zm_396 zm_398 zm_399 zm_263 zm_397) rfl rfl rfl hd_X5_lossOf ⟨Nat.le_of_ble_eq_true rfl, Nat.le_of_ble_eq_true rfl⟩) ⟨zR_blind, va_recv hK hP (ci := 5) (q0 := 0) rfl rfl, zR_pre hP hK hN⟩ rfl rfl hl.1 rfl (lv_room (Nat.le_of_ble_eq_true rfl)) dX5_lossOfAll_20 ⟨Nat.zero_le _, Nat.zero_le _⟩) (fun r20 h => ?_)
        refine lv_iadd hx hb dX5_lossOfAll_23 ?_
        refine lv_topi (fun y24 ey24 => ?_)
        replace h := h y24 ey24
        refine lv_istore_n (lv' := [(1, .int y24), (0, .ref (ah 99)), (2, .int x2)]) hx hb dX5_lossOfAll_24 rfl hl (by decide) rfl (fun ls hl => ?_)
        obtain ⟨y25, ey25⟩ : ∃ z : Int32, z = (x2 + (1 : Int32)) := ⟨_, rfl⟩
        replace h := h y25 ey25
        refine lv_iinc (v := y25) (lv' := [(2, .int y25), (1, .int y24), (0, .ref (ah 99))]) hx hb dX5_lossOfAll_25 hl (k := 2) rfl (by rw [ey25]; rfl) (by decide) rfl (fun ls hl => ?_)
        refine lv_goto (tgt := 4) hx hb dX5_lossOfAll_28 (by decide) ?_
        exact ih4 y24 y25 h ls (lv_sub hl [2, 1, 0] rfl)
  refine lv_iconst (v := (0 : Int32)) hx hb dX5_lossOfAll_0 (by decide) ?_
  refine lv_istore_n (lv' := [(1, .int (0 : Int32)), (0, .ref (ah 99))]) hx hb dX5_lossOfAll_1 rfl hl (by decide) rfl (fun ls hl => ?_)
  refine lv_iconst (v := (0 : Int32)) hx hb dX5_lossOfAll_2 (by decide) ?_
  refine lv_istore_n (lv' := [(2, .int (0 : Int32)), (1, .int (0 : Int32)), (0, .ref (ah 99))]) hx hb dX5_lossOfAll_3 rfl hl (by decide) rfl (fun ls hl => ?_)
  obtain ⟨nn, h⟩ := h
  exact L4 nn (0 : Int32) (0 : Int32) h ls (lv_sub hl [2, 1, 0] rfl)
set_option maxHeartbeats 4000000 in
set_option maxRecDepth 100000 in
theorem c_X5_order (l : Launch) (D : va_G) (cy : ClassId) (ah : Nat → Nat) (sz : Nat) (i1 : Int32) (S : zT) {Q : Int32 → zT → Prop} (h : wp_X5_order i1 S Q) : Met l yX5_order w_X5_order rm_X5_order (va_Pc [.ref (ah 99), .int i1] (zM D cy (bX5 ah cy S) sz)) (va_Qi (S := zT) (fun (r : Int32) (u : zT) => Q r u) (fun u t => va_P D zCl ((fun (u : zT) => (bX5 ah cy u)) u) t.heap) (va_A (bX5 ah cy S) sz)) 0 0 (va_A (bX5 ah cy S) sz) := by
  refine zOf_i (by decide) (Nat.le_of_ble_eq_true rfl) ?_
  intro p e s m below meth c ls A H locs hx hb hr hml hown htB hlocks hK hN hP hD hS hA hl
  replace hl : lv_has ls 2 [(0, .ref (ah 99)), (1, .int i1)] := hl
  refine lv_iload_n hx hb dX5_order_0 rfl (lv_at hl 1 rfl) ?_
  refine lv_if_ge (tgt := 11) hx hb dX5_order_1 (by decide) (fun c1 => ?_) (fun c1 => ?_)
  · replace h := And.left h c1
    refine lv_aload_n hx hb dX5_order_11 rfl (lv_at hl 0 rfl) ?_
    refine zc_vf (ws' := fun u => (bX5 ah cy u)) (va_runV (As := []) (rest := []) ⟨hx, hb, hml, hown, htB⟩ (c_X5_goesAll l D cy ah H.size S h) (cwV 0 htB (zgV zm_400 zm_402 zm_403 zm_263 zm_401) rfl rfl rfl hd_X5_goesAll ⟨Nat.le_of_ble_eq_true rfl, Nat.le_of_ble_eq_true rfl⟩) ⟨zM_blind, va_recv hK hP (ci := 5) (q0 := 0) rfl rfl, zM_pre hP hK hN hD⟩ rfl rfl hl.1 rfl (lv_room (Nat.le_of_ble_eq_true rfl)) dX5_order_12 ⟨Nat.zero_le _, Nat.zero_le _⟩) hS hA hP hD (fun u => rfl) (fun u => rfl) (fun u H locs h hP hD hS => ?_)
    obtain ⟨S_12, eu⟩ : ∃ z, z = u := ⟨_, rfl⟩
    subst eu
    replace hP : va_P D zCl (bX5 ah cy S_12) H := hP
    replace hD : va_D A (bX5 ah cy S_12) := hD
    refine lv_iload_n hx hb dX5_order_15 rfl (lv_at hl 1 rfl) ?_
    refine lv_aload_n hx hb dX5_order_16 rfl (lv_at hl 0 rfl) ?_
    refine va_get (D := D) (ci := 5) (v := .int (S_12 36 0)) (C := RX5) (T := TX5) (N := 41) hx hb htB ziX5 hown hK hP 0 rfl rfl 36 (by decide) (htB _ zm_369) (fun _ h9 => h9) rfl dX5_order_17 ?_
    refine lv_icmp_ge (tgt := 32) hx hb dX5_order_20 (by decide) (fun c20 => ?_) (fun c20 => ?_)
    · replace h := And.left h c20
      refine lv_bipush (v := (-9 : Int32)) hx hb dX5_order_32 (by decide) ?_
      exact W.iret (v := (-9 : Int32)) hx hb hr (fun t ht hW => ⟨⟨_, S_12, rfl, h, zP_h ht hP⟩, hS.F ht⟩) hS.2.2 dX5_order_34
    · replace h := And.right h c20
      refine lv_aload_n hx hb dX5_order_23 rfl (lv_at hl 0 rfl) ?_
      refine va_get (D := D) (ci := 5) (v := .ref (ah 26)) (C := RX5) (T := TX5) (N := 41) hx hb htB ziX5 hown hK hP 0 rfl rfl 26 (by decide) (htB _ zm_378) (fun _ h9 => h9) rfl dX5_order_24 ?_
      refine lv_iload_n hx hb dX5_order_27 rfl (lv_at hl 1 rfl) ?_
      refine va_iald (D := D) hx hb hK hP 19 0 rfl rfl (And.left h) dX5_order_28 ?_
      replace h := And.right h
      refine lv_goto (tgt := 34) hx hb dX5_order_29 (by decide) ?_
      exact W.iret (v := (S_12 26 i1.toNatClampNeg)) hx hb hr (fun t ht hW => ⟨⟨_, S_12, rfl, h, zP_h ht hP⟩, hS.F ht⟩) hS.2.2 dX5_order_34
  · replace h := And.right h c1
    refine lv_aload_n hx hb dX5_order_4 rfl (lv_at hl 0 rfl) ?_
    refine lv_bipush (v := (-4 : Int32)) hx hb dX5_order_5 (by decide) ?_
    refine zc_if (ws' := fun u => (bX5 ah cy u)) (va_runV (As := [.int (-4 : Int32)]) (rest := []) ⟨hx, hb, hml, hown, htB⟩ (c_X5_no l D cy ah H.size (-4 : Int32) S h) (cwV 1 htB (zgV zm_261 zm_264 zm_265 zm_263 zm_262) rfl rfl rfl hd_X5_no ⟨Nat.le_of_ble_eq_true rfl, Nat.le_of_ble_eq_true rfl⟩) ⟨zM_blind, va_recv hK hP (ci := 5) (q0 := 0) rfl rfl, zM_pre hP hK hN hD⟩ rfl rfl hl.1 rfl (lv_room (Nat.le_of_ble_eq_true rfl)) dX5_order_7 ⟨Nat.zero_le _, Nat.zero_le _⟩) hS hA hP hD (fun u => rfl) (fun u => rfl) (fun r7 u H locs h hP hD hS => ?_)
    obtain ⟨S_7, eu⟩ : ∃ z, z = u := ⟨_, rfl⟩
    subst eu
    replace hP : va_P D zCl (bX5 ah cy S_7) H := hP
    replace hD : va_D A (bX5 ah cy S_7) := hD
    exact W.iret (v := r7) hx hb hr (fun t ht hW => ⟨⟨_, S_7, rfl, h, zP_h ht hP⟩, hS.F ht⟩) hS.2.2 dX5_order_10
set_option maxHeartbeats 4000000 in
set_option maxRecDepth 100000 in
theorem c_X5_comes (l : Launch) (D : va_G) (cy : ClassId) (ah : Nat → Nat) (sz : Nat) (i1 : Int32) (S : zT) {Q : Int32 → zT → Prop} (h : wp_X5_comes i1 S Q) : Met l yX5_comes w_X5_comes rm_X5_comes (va_Pc [.ref (ah 99), .int i1] (zM D cy (bX5 ah cy S) sz)) (va_Qi (S := zT) (fun (r : Int32) (u : zT) => Q r u) (fun u t => va_P D zCl ((fun (u : zT) => (bX5 ah cy u)) u) t.heap) (va_A (bX5 ah cy S) sz)) 0 0 (va_A (bX5 ah cy S) sz) := by
  refine zOf_i (by decide) (Nat.le_of_ble_eq_true rfl) ?_
  intro p e s m below meth c ls A H locs hx hb hr hml hown htB hlocks hK hN hP hD hS hA hl
  replace hl : lv_has ls 2 [(0, .ref (ah 99)), (1, .int i1)] := hl
  refine lv_aload_n hx hb dX5_comes_0 rfl (lv_at hl 0 rfl) ?_
  refine lv_iload_n hx hb dX5_comes_1 rfl (lv_at hl 1 rfl) ?_
  refine zc_r (va_runV (As := [.int i1]) (rest := []) ⟨hx, hb, hml, hown, htB⟩ (c_X5_isWalker l D cy ah S i1 h) (cwV 1 htB (zgV zm_341 zm_343 zm_344 zm_263 zm_342) rfl rfl rfl hd_X5_isWalker ⟨Nat.le_of_ble_eq_true rfl, Nat.le_of_ble_eq_true rfl⟩) ⟨zR_blind, va_recv hK hP (ci := 5) (q0 := 0) rfl rfl, zR_pre hP hK hN⟩ rfl rfl hl.1 rfl (lv_room (Nat.le_of_ble_eq_true rfl)) dX5_comes_2 ⟨Nat.zero_le _, Nat.zero_le _⟩) (fun r2 h => ?_)
  refine lv_if_ne (tgt := 14) hx hb dX5_comes_5 (by decide) (fun c5 => ?_) (fun c5 => ?_)
  · replace h := And.right h c5
    refine lv_aload_n hx hb dX5_comes_14 rfl (lv_at hl 0 rfl) ?_
    refine zc_vf (ws' := fun u => (bX5 ah cy u)) (va_runV (As := []) (rest := []) ⟨hx, hb, hml, hown, htB⟩ (c_X5_goesAll l D cy ah H.size S h) (cwV 0 htB (zgV zm_400 zm_402 zm_403 zm_263 zm_401) rfl rfl rfl hd_X5_goesAll ⟨Nat.le_of_ble_eq_true rfl, Nat.le_of_ble_eq_true rfl⟩) ⟨zM_blind, va_recv hK hP (ci := 5) (q0 := 0) rfl rfl, zM_pre hP hK hN hD⟩ rfl rfl hl.1 rfl (lv_room (Nat.le_of_ble_eq_true rfl)) dX5_comes_15 ⟨Nat.zero_le _, Nat.zero_le _⟩) hS hA hP hD (fun u => rfl) (fun u => rfl) (fun u H locs h hP hD hS => ?_)
    obtain ⟨S_15, eu⟩ : ∃ z, z = u := ⟨_, rfl⟩
    subst eu
    replace hP : va_P D zCl (bX5 ah cy S_15) H := hP
    replace hD : va_D A (bX5 ah cy S_15) := hD
    refine lv_aload_n hx hb dX5_comes_18 rfl (lv_at hl 0 rfl) ?_
    refine va_get (D := D) (ci := 5) (v := .ref (ah 27)) (C := RX5) (T := TX5) (N := 41) hx hb htB ziX5 hown hK hP 0 rfl rfl 27 (by decide) (htB _ zm_366) (fun _ h9 => h9) rfl dX5_comes_19 ?_
    refine lv_iload_n hx hb dX5_comes_22 rfl (lv_at hl 1 rfl) ?_
    refine va_iald (D := D) hx hb hK hP 20 0 rfl rfl (And.left h) dX5_comes_23 ?_
    replace h := And.right h
    exact W.iret (v := (S_15 27 i1.toNatClampNeg)) hx hb hr (fun t ht hW => ⟨⟨_, S_15, rfl, h, zP_h ht hP⟩, hS.F ht⟩) hS.2.2 dX5_comes_24
  · replace h := And.left h c5
    refine lv_aload_n hx hb dX5_comes_8 rfl (lv_at hl 0 rfl) ?_
    refine lv_iconst (v := (-1 : Int32)) hx hb dX5_comes_9 (by decide) ?_
    refine zc_if (ws' := fun u => (bX5 ah cy u)) (va_runV (As := [.int (-1 : Int32)]) (rest := []) ⟨hx, hb, hml, hown, htB⟩ (c_X5_no l D cy ah H.size (-1 : Int32) S h) (cwV 1 htB (zgV zm_261 zm_264 zm_265 zm_263 zm_262) rfl rfl rfl hd_X5_no ⟨Nat.le_of_ble_eq_true rfl, Nat.le_of_ble_eq_true rfl⟩) ⟨zM_blind, va_recv hK hP (ci := 5) (q0 := 0) rfl rfl, zM_pre hP hK hN hD⟩ rfl rfl hl.1 rfl (lv_room (Nat.le_of_ble_eq_true rfl)) dX5_comes_10 ⟨Nat.zero_le _, Nat.zero_le _⟩) hS hA hP hD (fun u => rfl) (fun u => rfl) (fun r10 u H locs h hP hD hS => ?_)
    obtain ⟨S_10, eu⟩ : ∃ z, z = u := ⟨_, rfl⟩
    subst eu
    replace hP : va_P D zCl (bX5 ah cy S_10) H := hP
    replace hD : va_D A (bX5 ah cy S_10) := hD
    exact W.iret (v := r10) hx hb hr (fun t ht hW => ⟨⟨_, S_10, rfl, h, zP_h ht hP⟩, hS.F ht⟩) hS.2.2 dX5_comes_13
set_option maxHeartbeats 4000000 in
set_option maxRecDepth 100000 in
theorem c_X5_through (l : Launch) (D : va_G) (cy : ClassId) (ah : Nat → Nat) (sz : Nat) (i1 : Int32) (S : zT) {Q : Int32 → zT → Prop} (h : wp_X5_through i1 S Q) : Met l yX5_through w_X5_through rm_X5_through (va_Pc [.ref (ah 99), .int i1] (zM D cy (bX5 ah cy S) sz)) (va_Qi (S := zT) (fun (r : Int32) (u : zT) => Q r u) (fun u t => va_P D zCl ((fun (u : zT) => (bX5 ah cy u)) u) t.heap) (va_A (bX5 ah cy S) sz)) 0 0 (va_A (bX5 ah cy S) sz) := by
  refine zOf_i (by decide) (Nat.le_of_ble_eq_true rfl) ?_
  intro p e s m below meth c ls A H locs hx hb hr hml hown htB hlocks hK hN hP hD hS hA hl
  replace hl : lv_has ls 2 [(0, .ref (ah 99)), (1, .int i1)] := hl
  refine lv_aload_n hx hb dX5_through_0 rfl (lv_at hl 0 rfl) ?_
  refine lv_iload_n hx hb dX5_through_1 rfl (lv_at hl 1 rfl) ?_
  refine zc_r (va_runV (As := [.int i1]) (rest := []) ⟨hx, hb, hml, hown, htB⟩ (c_X5_isWalker l D cy ah S i1 h) (cwV 1 htB (zgV zm_341 zm_343 zm_344 zm_263 zm_342) rfl rfl rfl hd_X5_isWalker ⟨Nat.le_of_ble_eq_true rfl, Nat.le_of_ble_eq_true rfl⟩) ⟨zR_blind, va_recv hK hP (ci := 5) (q0 := 0) rfl rfl, zR_pre hP hK hN⟩ rfl rfl hl.1 rfl (lv_room (Nat.le_of_ble_eq_true rfl)) dX5_through_2 ⟨Nat.zero_le _, Nat.zero_le _⟩) (fun r2 h => ?_)
  refine lv_if_ne (tgt := 14) hx hb dX5_through_5 (by decide) (fun c5 => ?_) (fun c5 => ?_)
  · replace h := And.right h c5
    refine lv_aload_n hx hb dX5_through_14 rfl (lv_at hl 0 rfl) ?_
    refine zc_vf (ws' := fun u => (bX5 ah cy u)) (va_runV (As := []) (rest := []) ⟨hx, hb, hml, hown, htB⟩ (c_X5_goesAll l D cy ah H.size S h) (cwV 0 htB (zgV zm_400 zm_402 zm_403 zm_263 zm_401) rfl rfl rfl hd_X5_goesAll ⟨Nat.le_of_ble_eq_true rfl, Nat.le_of_ble_eq_true rfl⟩) ⟨zM_blind, va_recv hK hP (ci := 5) (q0 := 0) rfl rfl, zM_pre hP hK hN hD⟩ rfl rfl hl.1 rfl (lv_room (Nat.le_of_ble_eq_true rfl)) dX5_through_15 ⟨Nat.zero_le _, Nat.zero_le _⟩) hS hA hP hD (fun u => rfl) (fun u => rfl) (fun u H locs h hP hD hS => ?_)
    obtain ⟨S_15, eu⟩ : ∃ z, z = u := ⟨_, rfl⟩
    subst eu
    replace hP : va_P D zCl (bX5 ah cy S_15) H := hP
    replace hD : va_D A (bX5 ah cy S_15) := hD
    refine lv_aload_n hx hb dX5_through_18 rfl (lv_at hl 0 rfl) ?_
    refine va_get (D := D) (ci := 5) (v := .ref (ah 28)) (C := RX5) (T := TX5) (N := 41) hx hb htB ziX5 hown hK hP 0 rfl rfl 28 (by decide) (htB _ zm_364) (fun _ h9 => h9) rfl dX5_through_19 ?_
    refine lv_iload_n hx hb dX5_through_22 rfl (lv_at hl 1 rfl) ?_
    refine va_iald (D := D) hx hb hK hP 21 0 rfl rfl (And.left h) dX5_through_23 ?_
    replace h := And.right h
    exact W.iret (v := (S_15 28 i1.toNatClampNeg)) hx hb hr (fun t ht hW => ⟨⟨_, S_15, rfl, h, zP_h ht hP⟩, hS.F ht⟩) hS.2.2 dX5_through_24
  · replace h := And.left h c5
    refine lv_aload_n hx hb dX5_through_8 rfl (lv_at hl 0 rfl) ?_
    refine lv_iconst (v := (-1 : Int32)) hx hb dX5_through_9 (by decide) ?_
    refine zc_if (ws' := fun u => (bX5 ah cy u)) (va_runV (As := [.int (-1 : Int32)]) (rest := []) ⟨hx, hb, hml, hown, htB⟩ (c_X5_no l D cy ah H.size (-1 : Int32) S h) (cwV 1 htB (zgV zm_261 zm_264 zm_265 zm_263 zm_262) rfl rfl rfl hd_X5_no ⟨Nat.le_of_ble_eq_true rfl, Nat.le_of_ble_eq_true rfl⟩) ⟨zM_blind, va_recv hK hP (ci := 5) (q0 := 0) rfl rfl, zM_pre hP hK hN hD⟩ rfl rfl hl.1 rfl (lv_room (Nat.le_of_ble_eq_true rfl)) dX5_through_10 ⟨Nat.zero_le _, Nat.zero_le _⟩) hS hA hP hD (fun u => rfl) (fun u => rfl) (fun r10 u H locs h hP hD hS => ?_)
    obtain ⟨S_10, eu⟩ : ∃ z, z = u := ⟨_, rfl⟩
    subst eu
    replace hP : va_P D zCl (bX5 ah cy S_10) H := hP
    replace hD : va_D A (bX5 ah cy S_10) := hD
    exact W.iret (v := r10) hx hb hr (fun t ht hW => ⟨⟨_, S_10, rfl, h, zP_h ht hP⟩, hS.F ht⟩) hS.2.2 dX5_through_13
set_option maxHeartbeats 4000000 in
set_option maxRecDepth 100000 in
theorem c_X5_opens (l : Launch) (D : va_G) (cy : ClassId) (ah : Nat → Nat) (sz : Nat) (i1 : Int32) (S : zT) {Q : Int32 → zT → Prop} (h : wp_X5_opens i1 S Q) : Met l yX5_opens w_X5_opens rm_X5_opens (va_Pc [.ref (ah 99), .int i1] (zM D cy (bX5 ah cy S) sz)) (va_Qi (S := zT) (fun (r : Int32) (u : zT) => Q r u) (fun u t => va_P D zCl ((fun (u : zT) => (bX5 ah cy u)) u) t.heap) (va_A (bX5 ah cy S) sz)) 0 0 (va_A (bX5 ah cy S) sz) := by
  refine zOf_i (by decide) (Nat.le_of_ble_eq_true rfl) ?_
  intro p e s m below meth c ls A H locs hx hb hr hml hown htB hlocks hK hN hP hD hS hA hl
  replace hl : lv_has ls 2 [(0, .ref (ah 99)), (1, .int i1)] := hl
  refine lv_aload_n hx hb dX5_opens_0 rfl (lv_at hl 0 rfl) ?_
  refine lv_iload_n hx hb dX5_opens_1 rfl (lv_at hl 1 rfl) ?_
  refine zc_r (va_runV (As := [.int i1]) (rest := []) ⟨hx, hb, hml, hown, htB⟩ (c_X5_isWalker l D cy ah S i1 h) (cwV 1 htB (zgV zm_341 zm_343 zm_344 zm_263 zm_342) rfl rfl rfl hd_X5_isWalker ⟨Nat.le_of_ble_eq_true rfl, Nat.le_of_ble_eq_true rfl⟩) ⟨zR_blind, va_recv hK hP (ci := 5) (q0 := 0) rfl rfl, zR_pre hP hK hN⟩ rfl rfl hl.1 rfl (lv_room (Nat.le_of_ble_eq_true rfl)) dX5_opens_2 ⟨Nat.zero_le _, Nat.zero_le _⟩) (fun r2 h => ?_)
  refine lv_if_ne (tgt := 14) hx hb dX5_opens_5 (by decide) (fun c5 => ?_) (fun c5 => ?_)
  · replace h := And.right h c5
    refine lv_aload_n hx hb dX5_opens_14 rfl (lv_at hl 0 rfl) ?_
    refine zc_vf (ws' := fun u => (bX5 ah cy u)) (va_runV (As := []) (rest := []) ⟨hx, hb, hml, hown, htB⟩ (c_X5_goesAll l D cy ah H.size S h) (cwV 0 htB (zgV zm_400 zm_402 zm_403 zm_263 zm_401) rfl rfl rfl hd_X5_goesAll ⟨Nat.le_of_ble_eq_true rfl, Nat.le_of_ble_eq_true rfl⟩) ⟨zM_blind, va_recv hK hP (ci := 5) (q0 := 0) rfl rfl, zM_pre hP hK hN hD⟩ rfl rfl hl.1 rfl (lv_room (Nat.le_of_ble_eq_true rfl)) dX5_opens_15 ⟨Nat.zero_le _, Nat.zero_le _⟩) hS hA hP hD (fun u => rfl) (fun u => rfl) (fun u H locs h hP hD hS => ?_)
    obtain ⟨S_15, eu⟩ : ∃ z, z = u := ⟨_, rfl⟩
    subst eu
    replace hP : va_P D zCl (bX5 ah cy S_15) H := hP
    replace hD : va_D A (bX5 ah cy S_15) := hD
    refine lv_aload_n hx hb dX5_opens_18 rfl (lv_at hl 0 rfl) ?_
    refine va_get (D := D) (ci := 5) (v := .ref (ah 29)) (C := RX5) (T := TX5) (N := 41) hx hb htB ziX5 hown hK hP 0 rfl rfl 29 (by decide) (htB _ zm_367) (fun _ h9 => h9) rfl dX5_opens_19 ?_
    refine lv_iload_n hx hb dX5_opens_22 rfl (lv_at hl 1 rfl) ?_
    refine va_iald (D := D) hx hb hK hP 22 0 rfl rfl (And.left h) dX5_opens_23 ?_
    replace h := And.right h
    exact W.iret (v := (S_15 29 i1.toNatClampNeg)) hx hb hr (fun t ht hW => ⟨⟨_, S_15, rfl, h, zP_h ht hP⟩, hS.F ht⟩) hS.2.2 dX5_opens_24
  · replace h := And.left h c5
    refine lv_aload_n hx hb dX5_opens_8 rfl (lv_at hl 0 rfl) ?_
    refine lv_iconst (v := (-1 : Int32)) hx hb dX5_opens_9 (by decide) ?_
    refine zc_if (ws' := fun u => (bX5 ah cy u)) (va_runV (As := [.int (-1 : Int32)]) (rest := []) ⟨hx, hb, hml, hown, htB⟩ (c_X5_no l D cy ah H.size (-1 : Int32) S h) (cwV 1 htB (zgV zm_261 zm_264 zm_265 zm_263 zm_262) rfl rfl rfl hd_X5_no ⟨Nat.le_of_ble_eq_true rfl, Nat.le_of_ble_eq_true rfl⟩) ⟨zM_blind, va_recv hK hP (ci := 5) (q0 := 0) rfl rfl, zM_pre hP hK hN hD⟩ rfl rfl hl.1 rfl (lv_room (Nat.le_of_ble_eq_true rfl)) dX5_opens_10 ⟨Nat.zero_le _, Nat.zero_le _⟩) hS hA hP hD (fun u => rfl) (fun u => rfl) (fun r10 u H locs h hP hD hS => ?_)
    obtain ⟨S_10, eu⟩ : ∃ z, z = u := ⟨_, rfl⟩
    subst eu
    replace hP : va_P D zCl (bX5 ah cy S_10) H := hP
    replace hD : va_D A (bX5 ah cy S_10) := hD
    exact W.iret (v := r10) hx hb hr (fun t ht hW => ⟨⟨_, S_10, rfl, h, zP_h ht hP⟩, hS.F ht⟩) hS.2.2 dX5_opens_13
set_option maxHeartbeats 4000000 in
set_option maxRecDepth 100000 in
theorem c_X5_stands (l : Launch) (D : va_G) (cy : ClassId) (ah : Nat → Nat) (sz : Nat) (i1 : Int32) (S : zT) {Q : Int32 → zT → Prop} (h : wp_X5_stands i1 S Q) : Met l yX5_stands w_X5_stands rm_X5_stands (va_Pc [.ref (ah 99), .int i1] (zM D cy (bX5 ah cy S) sz)) (va_Qi (S := zT) (fun (r : Int32) (u : zT) => Q r u) (fun u t => va_P D zCl ((fun (u : zT) => (bX5 ah cy u)) u) t.heap) (va_A (bX5 ah cy S) sz)) 0 0 (va_A (bX5 ah cy S) sz) := by
  refine zOf_i (by decide) (Nat.le_of_ble_eq_true rfl) ?_
  intro p e s m below meth c ls A H locs hx hb hr hml hown htB hlocks hK hN hP hD hS hA hl
  replace hl : lv_has ls 2 [(0, .ref (ah 99)), (1, .int i1)] := hl
  refine lv_aload_n hx hb dX5_stands_0 rfl (lv_at hl 0 rfl) ?_
  refine lv_iload_n hx hb dX5_stands_1 rfl (lv_at hl 1 rfl) ?_
  refine zc_r (va_runV (As := [.int i1]) (rest := []) ⟨hx, hb, hml, hown, htB⟩ (c_X5_isWalker l D cy ah S i1 h) (cwV 1 htB (zgV zm_341 zm_343 zm_344 zm_263 zm_342) rfl rfl rfl hd_X5_isWalker ⟨Nat.le_of_ble_eq_true rfl, Nat.le_of_ble_eq_true rfl⟩) ⟨zR_blind, va_recv hK hP (ci := 5) (q0 := 0) rfl rfl, zR_pre hP hK hN⟩ rfl rfl hl.1 rfl (lv_room (Nat.le_of_ble_eq_true rfl)) dX5_stands_2 ⟨Nat.zero_le _, Nat.zero_le _⟩) (fun r2 h => ?_)
  refine lv_if_ne (tgt := 14) hx hb dX5_stands_5 (by decide) (fun c5 => ?_) (fun c5 => ?_)
  · replace h := And.right h c5
    refine lv_aload_n hx hb dX5_stands_14 rfl (lv_at hl 0 rfl) ?_
    refine zc_vf (ws' := fun u => (bX5 ah cy u)) (va_runV (As := []) (rest := []) ⟨hx, hb, hml, hown, htB⟩ (c_X5_goesAll l D cy ah H.size S h) (cwV 0 htB (zgV zm_400 zm_402 zm_403 zm_263 zm_401) rfl rfl rfl hd_X5_goesAll ⟨Nat.le_of_ble_eq_true rfl, Nat.le_of_ble_eq_true rfl⟩) ⟨zM_blind, va_recv hK hP (ci := 5) (q0 := 0) rfl rfl, zM_pre hP hK hN hD⟩ rfl rfl hl.1 rfl (lv_room (Nat.le_of_ble_eq_true rfl)) dX5_stands_15 ⟨Nat.zero_le _, Nat.zero_le _⟩) hS hA hP hD (fun u => rfl) (fun u => rfl) (fun u H locs h hP hD hS => ?_)
    obtain ⟨S_15, eu⟩ : ∃ z, z = u := ⟨_, rfl⟩
    subst eu
    replace hP : va_P D zCl (bX5 ah cy S_15) H := hP
    replace hD : va_D A (bX5 ah cy S_15) := hD
    refine lv_aload_n hx hb dX5_stands_18 rfl (lv_at hl 0 rfl) ?_
    refine va_get (D := D) (ci := 5) (v := .ref (ah 30)) (C := RX5) (T := TX5) (N := 41) hx hb htB ziX5 hown hK hP 0 rfl rfl 30 (by decide) (htB _ zm_371) (fun _ h9 => h9) rfl dX5_stands_19 ?_
    refine lv_iload_n hx hb dX5_stands_22 rfl (lv_at hl 1 rfl) ?_
    refine va_iald (D := D) hx hb hK hP 23 0 rfl rfl (And.left h) dX5_stands_23 ?_
    replace h := And.right h
    exact W.iret (v := (S_15 30 i1.toNatClampNeg)) hx hb hr (fun t ht hW => ⟨⟨_, S_15, rfl, h, zP_h ht hP⟩, hS.F ht⟩) hS.2.2 dX5_stands_24
  · replace h := And.left h c5
    refine lv_aload_n hx hb dX5_stands_8 rfl (lv_at hl 0 rfl) ?_
    refine lv_iconst (v := (-1 : Int32)) hx hb dX5_stands_9 (by decide) ?_
    refine zc_if (ws' := fun u => (bX5 ah cy u)) (va_runV (As := [.int (-1 : Int32)]) (rest := []) ⟨hx, hb, hml, hown, htB⟩ (c_X5_no l D cy ah H.size (-1 : Int32) S h) (cwV 1 htB (zgV zm_261 zm_264 zm_265 zm_263 zm_262) rfl rfl rfl hd_X5_no ⟨Nat.le_of_ble_eq_true rfl, Nat.le_of_ble_eq_true rfl⟩) ⟨zM_blind, va_recv hK hP (ci := 5) (q0 := 0) rfl rfl, zM_pre hP hK hN hD⟩ rfl rfl hl.1 rfl (lv_room (Nat.le_of_ble_eq_true rfl)) dX5_stands_10 ⟨Nat.zero_le _, Nat.zero_le _⟩) hS hA hP hD (fun u => rfl) (fun u => rfl) (fun r10 u H locs h hP hD hS => ?_)
    obtain ⟨S_10, eu⟩ : ∃ z, z = u := ⟨_, rfl⟩
    subst eu
    replace hP : va_P D zCl (bX5 ah cy S_10) H := hP
    replace hD : va_D A (bX5 ah cy S_10) := hD
    exact W.iret (v := r10) hx hb hr (fun t ht hW => ⟨⟨_, S_10, rfl, h, zP_h ht hP⟩, hS.F ht⟩) hS.2.2 dX5_stands_13
set_option maxHeartbeats 4000000 in
set_option maxRecDepth 100000 in
theorem c_X5_by (l : Launch) (D : va_G) (cy : ClassId) (ah : Nat → Nat) (sz : Nat) (i1 : Int32) (S : zT) {Q : Int32 → zT → Prop} (h : wp_X5_by i1 S Q) : Met l yX5_by w_X5_by rm_X5_by (va_Pc [.ref (ah 99), .int i1] (zM D cy (bX5 ah cy S) sz)) (va_Qi (S := zT) (fun (r : Int32) (u : zT) => Q r u) (fun u t => va_P D zCl ((fun (u : zT) => (bX5 ah cy u)) u) t.heap) (va_A (bX5 ah cy S) sz)) 0 0 (va_A (bX5 ah cy S) sz) := by
  refine zOf_i (by decide) (Nat.le_of_ble_eq_true rfl) ?_
  intro p e s m below meth c ls A H locs hx hb hr hml hown htB hlocks hK hN hP hD hS hA hl
  replace hl : lv_has ls 2 [(0, .ref (ah 99)), (1, .int i1)] := hl
  refine lv_aload_n hx hb dX5_by_0 rfl (lv_at hl 0 rfl) ?_
  refine lv_iload_n hx hb dX5_by_1 rfl (lv_at hl 1 rfl) ?_
  refine zc_r (va_runV (As := [.int i1]) (rest := []) ⟨hx, hb, hml, hown, htB⟩ (c_X5_isWalker l D cy ah S i1 h) (cwV 1 htB (zgV zm_341 zm_343 zm_344 zm_263 zm_342) rfl rfl rfl hd_X5_isWalker ⟨Nat.le_of_ble_eq_true rfl, Nat.le_of_ble_eq_true rfl⟩) ⟨zR_blind, va_recv hK hP (ci := 5) (q0 := 0) rfl rfl, zR_pre hP hK hN⟩ rfl rfl hl.1 rfl (lv_room (Nat.le_of_ble_eq_true rfl)) dX5_by_2 ⟨Nat.zero_le _, Nat.zero_le _⟩) (fun r2 h => ?_)
  refine lv_if_ne (tgt := 14) hx hb dX5_by_5 (by decide) (fun c5 => ?_) (fun c5 => ?_)
  · replace h := And.right h c5
    refine lv_aload_n hx hb dX5_by_14 rfl (lv_at hl 0 rfl) ?_
    refine zc_vf (ws' := fun u => (bX5 ah cy u)) (va_runV (As := []) (rest := []) ⟨hx, hb, hml, hown, htB⟩ (c_X5_goesAll l D cy ah H.size S h) (cwV 0 htB (zgV zm_400 zm_402 zm_403 zm_263 zm_401) rfl rfl rfl hd_X5_goesAll ⟨Nat.le_of_ble_eq_true rfl, Nat.le_of_ble_eq_true rfl⟩) ⟨zM_blind, va_recv hK hP (ci := 5) (q0 := 0) rfl rfl, zM_pre hP hK hN hD⟩ rfl rfl hl.1 rfl (lv_room (Nat.le_of_ble_eq_true rfl)) dX5_by_15 ⟨Nat.zero_le _, Nat.zero_le _⟩) hS hA hP hD (fun u => rfl) (fun u => rfl) (fun u H locs h hP hD hS => ?_)
    obtain ⟨S_15, eu⟩ : ∃ z, z = u := ⟨_, rfl⟩
    subst eu
    replace hP : va_P D zCl (bX5 ah cy S_15) H := hP
    replace hD : va_D A (bX5 ah cy S_15) := hD
    refine lv_aload_n hx hb dX5_by_18 rfl (lv_at hl 0 rfl) ?_
    refine va_get (D := D) (ci := 5) (v := .ref (ah 31)) (C := RX5) (T := TX5) (N := 41) hx hb htB ziX5 hown hK hP 0 rfl rfl 31 (by decide) (htB _ zm_365) (fun _ h9 => h9) rfl dX5_by_19 ?_
    refine lv_iload_n hx hb dX5_by_22 rfl (lv_at hl 1 rfl) ?_
    refine va_iald (D := D) hx hb hK hP 24 0 rfl rfl (And.left h) dX5_by_23 ?_
    replace h := And.right h
    exact W.iret (v := (S_15 31 i1.toNatClampNeg)) hx hb hr (fun t ht hW => ⟨⟨_, S_15, rfl, h, zP_h ht hP⟩, hS.F ht⟩) hS.2.2 dX5_by_24
  · replace h := And.left h c5
    refine lv_aload_n hx hb dX5_by_8 rfl (lv_at hl 0 rfl) ?_
    refine lv_iconst (v := (-1 : Int32)) hx hb dX5_by_9 (by decide) ?_
    refine zc_if (ws' := fun u => (bX5 ah cy u)) (va_runV (As := [.int (-1 : Int32)]) (rest := []) ⟨hx, hb, hml, hown, htB⟩ (c_X5_no l D cy ah H.size (-1 : Int32) S h) (cwV 1 htB (zgV zm_261 zm_264 zm_265 zm_263 zm_262) rfl rfl rfl hd_X5_no ⟨Nat.le_of_ble_eq_true rfl, Nat.le_of_ble_eq_true rfl⟩) ⟨zM_blind, va_recv hK hP (ci := 5) (q0 := 0) rfl rfl, zM_pre hP hK hN hD⟩ rfl rfl hl.1 rfl (lv_room (Nat.le_of_ble_eq_true rfl)) dX5_by_10 ⟨Nat.zero_le _, Nat.zero_le _⟩) hS hA hP hD (fun u => rfl) (fun u => rfl) (fun r10 u H locs h hP hD hS => ?_)
    obtain ⟨S_10, eu⟩ : ∃ z, z = u := ⟨_, rfl⟩
    subst eu
    replace hP : va_P D zCl (bX5 ah cy S_10) H := hP
    replace hD : va_D A (bX5 ah cy S_10) := hD
    exact W.iret (v := r10) hx hb hr (fun t ht hW => ⟨⟨_, S_10, rfl, h, zP_h ht hP⟩, hS.F ht⟩) hS.2.2 dX5_by_13
set_option maxHeartbeats 4000000 in
set_option maxRecDepth 100000 in
theorem c_X5_runs (l : Launch) (D : va_G) (cy : ClassId) (ah : Nat → Nat) (sz : Nat) (i1 : Int32) (S : zT) {Q : Int32 → zT → Prop} (h : wp_X5_runs i1 S Q) : Met l yX5_runs w_X5_runs rm_X5_runs (va_Pc [.ref (ah 99), .int i1] (zM D cy (bX5 ah cy S) sz)) (va_Qi (S := zT) (fun (r : Int32) (u : zT) => Q r u) (fun u t => va_P D zCl ((fun (u : zT) => (bX5 ah cy u)) u) t.heap) (va_A (bX5 ah cy S) sz)) 0 0 (va_A (bX5 ah cy S) sz) := by
  refine zOf_i (by decide) (Nat.le_of_ble_eq_true rfl) ?_
  intro p e s m below meth c ls A H locs hx hb hr hml hown htB hlocks hK hN hP hD hS hA hl
  replace hl : lv_has ls 2 [(0, .ref (ah 99)), (1, .int i1)] := hl
  refine lv_aload_n hx hb dX5_runs_0 rfl (lv_at hl 0 rfl) ?_
  refine lv_iload_n hx hb dX5_runs_1 rfl (lv_at hl 1 rfl) ?_
  refine zc_r (va_runV (As := [.int i1]) (rest := []) ⟨hx, hb, hml, hown, htB⟩ (c_X5_isWalker l D cy ah S i1 h) (cwV 1 htB (zgV zm_341 zm_343 zm_344 zm_263 zm_342) rfl rfl rfl hd_X5_isWalker ⟨Nat.le_of_ble_eq_true rfl, Nat.le_of_ble_eq_true rfl⟩) ⟨zR_blind, va_recv hK hP (ci := 5) (q0 := 0) rfl rfl, zR_pre hP hK hN⟩ rfl rfl hl.1 rfl (lv_room (Nat.le_of_ble_eq_true rfl)) dX5_runs_2 ⟨Nat.zero_le _, Nat.zero_le _⟩) (fun r2 h => ?_)
  refine lv_if_ne (tgt := 14) hx hb dX5_runs_5 (by decide) (fun c5 => ?_) (fun c5 => ?_)
  · replace h := And.right h c5
    refine lv_aload_n hx hb dX5_runs_14 rfl (lv_at hl 0 rfl) ?_
    refine zc_vf (ws' := fun u => (bX5 ah cy u)) (va_runV (As := []) (rest := []) ⟨hx, hb, hml, hown, htB⟩ (c_X5_goesAll l D cy ah H.size S h) (cwV 0 htB (zgV zm_400 zm_402 zm_403 zm_263 zm_401) rfl rfl rfl hd_X5_goesAll ⟨Nat.le_of_ble_eq_true rfl, Nat.le_of_ble_eq_true rfl⟩) ⟨zM_blind, va_recv hK hP (ci := 5) (q0 := 0) rfl rfl, zM_pre hP hK hN hD⟩ rfl rfl hl.1 rfl (lv_room (Nat.le_of_ble_eq_true rfl)) dX5_runs_15 ⟨Nat.zero_le _, Nat.zero_le _⟩) hS hA hP hD (fun u => rfl) (fun u => rfl) (fun u H locs h hP hD hS => ?_)
    obtain ⟨S_15, eu⟩ : ∃ z, z = u := ⟨_, rfl⟩
    subst eu
    replace hP : va_P D zCl (bX5 ah cy S_15) H := hP
    replace hD : va_D A (bX5 ah cy S_15) := hD
    refine lv_aload_n hx hb dX5_runs_18 rfl (lv_at hl 0 rfl) ?_
    refine va_get (D := D) (ci := 5) (v := .ref (ah 32)) (C := RX5) (T := TX5) (N := 41) hx hb htB ziX5 hown hK hP 0 rfl rfl 32 (by decide) (htB _ zm_368) (fun _ h9 => h9) rfl dX5_runs_19 ?_
    refine lv_iload_n hx hb dX5_runs_22 rfl (lv_at hl 1 rfl) ?_
    refine va_iald (D := D) hx hb hK hP 25 0 rfl rfl (And.left h) dX5_runs_23 ?_
    replace h := And.right h
    exact W.iret (v := (S_15 32 i1.toNatClampNeg)) hx hb hr (fun t ht hW => ⟨⟨_, S_15, rfl, h, zP_h ht hP⟩, hS.F ht⟩) hS.2.2 dX5_runs_24
  · replace h := And.left h c5
    refine lv_aload_n hx hb dX5_runs_8 rfl (lv_at hl 0 rfl) ?_
    refine lv_iconst (v := (-1 : Int32)) hx hb dX5_runs_9 (by decide) ?_
    refine zc_if (ws' := fun u => (bX5 ah cy u)) (va_runV (As := [.int (-1 : Int32)]) (rest := []) ⟨hx, hb, hml, hown, htB⟩ (c_X5_no l D cy ah H.size (-1 : Int32) S h) (cwV 1 htB (zgV zm_261 zm_264 zm_265 zm_263 zm_262) rfl rfl rfl hd_X5_no ⟨Nat.le_of_ble_eq_true rfl, Nat.le_of_ble_eq_true rfl⟩) ⟨zM_blind, va_recv hK hP (ci := 5) (q0 := 0) rfl rfl, zM_pre hP hK hN hD⟩ rfl rfl hl.1 rfl (lv_room (Nat.le_of_ble_eq_true rfl)) dX5_runs_10 ⟨Nat.zero_le _, Nat.zero_le _⟩) hS hA hP hD (fun u => rfl) (fun u => rfl) (fun r10 u H locs h hP hD hS => ?_)
    obtain ⟨S_10, eu⟩ : ∃ z, z = u := ⟨_, rfl⟩
    subst eu
    replace hP : va_P D zCl (bX5 ah cy S_10) H := hP
    replace hD : va_D A (bX5 ah cy S_10) := hD
    exact W.iret (v := r10) hx hb hr (fun t ht hW => ⟨⟨_, S_10, rfl, h, zP_h ht hP⟩, hS.F ht⟩) hS.2.2 dX5_runs_13
set_option maxHeartbeats 4000000 in
set_option maxRecDepth 100000 in
theorem c_X5_loss (l : Launch) (D : va_G) (cy : ClassId) (ah : Nat → Nat) (sz : Nat) (i1 : Int32) (S : zT) {Q : Int32 → zT → Prop} (h : wp_X5_loss i1 S Q) : Met l yX5_loss w_X5_loss rm_X5_loss (va_Pc [.ref (ah 99), .int i1] (zM D cy (bX5 ah cy S) sz)) (va_Qi (S := zT) (fun (r : Int32) (u : zT) => Q r u) (fun u t => va_P D zCl ((fun (u : zT) => (bX5 ah cy u)) u) t.heap) (va_A (bX5 ah cy S) sz)) 0 0 (va_A (bX5 ah cy S) sz) := by
  refine zOf_i (by decide) (Nat.le_of_ble_eq_true rfl) ?_
  intro p e s m below meth c ls A H locs hx hb hr hml hown htB hlocks hK hN hP hD hS hA hl
  replace hl : lv_has ls 2 [(0, .ref (ah 99)), (1, .int i1)] := hl
  have L19 : ∀ (S : zT), wpb_X5_loss_19 i1 Q S → ∀ (H : Heap) (locs : List Loc), va_P D zCl (bX5 ah cy S) H → va_D A (bX5 ah cy S) → va_S A s.heap H locs → ∀ ls : Array Slot, lv_has ls 2 [(0, .ref (ah 99)), (1, .int i1)] → W p l e rm_X5_loss s m ([.ref (ah 99), .int i1] : List Value).toArray below meth c H locs 0 0 (MQ below (va_Qi (S := zT) (fun (r : Int32) (u : zT) => Q r u) (fun u t => va_P D zCl ((fun (u : zT) => (bX5 ah cy u)) u) t.heap) A) ([.ref (ah 99), .int i1] : List Value).toArray s 0 0 A) (F0 m 19 ls []) := by
    intro S h H locs hP hD hS ls hl
    refine lv_aload_n hx hb dX5_loss_19 rfl (lv_at hl 0 rfl) ?_
    refine zc_vf (ws' := fun u => (bX5 ah cy u)) (va_runV (As := []) (rest := []) ⟨hx, hb, hml, hown, htB⟩ (c_X5_goesAll l D cy ah H.size S h) (cwV 0 htB (zgV zm_400 zm_402 zm_403 zm_263 zm_401) rfl rfl rfl hd_X5_goesAll ⟨Nat.le_of_ble_eq_true rfl, Nat.le_of_ble_eq_true rfl⟩) ⟨zM_blind, va_recv hK hP (ci := 5) (q0 := 0) rfl rfl, zM_pre hP hK hN hD⟩ rfl rfl hl.1 rfl (lv_room (Nat.le_of_ble_eq_true rfl)) dX5_loss_20 ⟨Nat.zero_le _, Nat.zero_le _⟩) hS hA hP hD (fun u => rfl) (fun u => rfl) (fun u H locs h hP hD hS => ?_)
    obtain ⟨S_20, eu⟩ : ∃ z, z = u := ⟨_, rfl⟩
    subst eu
    replace hP : va_P D zCl (bX5 ah cy S_20) H := hP
    replace hD : va_D A (bX5 ah cy S_20) := hD
    refine lv_iload_n hx hb dX5_loss_23 rfl (lv_at hl 1 rfl) ?_
    refine lv_iconst (v := (-1 : Int32)) hx hb dX5_loss_24 (by decide) ?_
    refine lv_icmp_ne (tgt := 35) hx hb dX5_loss_25 (by decide) (fun c25 => ?_) (fun c25 => ?_)
    · replace h := And.right h c25
      refine lv_aload_n hx hb dX5_loss_35 rfl (lv_at hl 0 rfl) ?_
      refine lv_iload_n hx hb dX5_loss_36 rfl (lv_at hl 1 rfl) ?_
      refine zc_r (va_runV (As := [.int i1]) (rest := []) ⟨hx, hb, hml, hown, htB⟩ (c_X5_lossOf l D cy ah S_20 i1 h) (cwV 1 htB (zgV zm_396 zm_398 zm_399 zm_263 zm_397) rfl rfl rfl hd_X5_lossOf ⟨Nat.le_of_ble_eq_true rfl, Nat.le_of_ble_eq_true rfl⟩) ⟨zR_blind, va_recv hK hP (ci := 5) (q0 := 0) rfl rfl, zR_pre hP hK hN⟩ rfl rfl hl.1 rfl (lv_room (Nat.le_of_ble_eq_true rfl)) dX5_loss_37 ⟨Nat.zero_le _, Nat.zero_le _⟩) (fun r37 h => ?_)
      exact W.iret (v := r37) hx hb hr (fun t ht hW => ⟨⟨_, S_20, rfl, h, zP_h ht hP⟩, hS.F ht⟩) hS.2.2 dX5_loss_40
    · replace h := And.left h c25
      refine lv_aload_n hx hb dX5_loss_28 rfl (lv_at hl 0 rfl) ?_
      refine zc_r (va_runV (As := []) (rest := []) ⟨hx, hb, hml, hown, htB⟩ (c_X5_lossOfAll l D cy ah S_20 h) (cwV 0 htB (zgV zm_404 zm_406 zm_407 zm_263 zm_405) rfl rfl rfl hd_X5_lossOfAll ⟨Nat.le_of_ble_eq_true rfl, Nat.le_of_ble_eq_true rfl⟩) ⟨zR_blind, va_recv hK hP (ci := 5) (q0 := 0) rfl rfl, zR_pre hP hK hN⟩ rfl rfl hl.1 rfl (lv_room (Nat.le_of_ble_eq_true rfl)) dX5_loss_29 ⟨Nat.zero_le _, Nat.zero_le _⟩) (fun r29 h => ?_)
      refine lv_goto (tgt := 40) hx hb dX5_loss_32 (by decide) ?_
      exact W.iret (v := r29) hx hb hr (fun t ht hW => ⟨⟨_, S_20, rfl, h, zP_h ht hP⟩, hS.F ht⟩) hS.2.2 dX5_loss_40
  refine lv_iload_n hx hb dX5_loss_0 rfl (lv_at hl 1 rfl) ?_
  refine lv_iconst (v := (-1 : Int32)) hx hb dX5_loss_1 (by decide) ?_
  refine lv_icmp_eq (tgt := 19) hx hb dX5_loss_2 (by decide) (fun c2 => ?_) (fun c2 => ?_)
  · replace h := And.left h c2
    exact L19 S h H locs hP hD hS ls (lv_sub hl [0, 1] rfl)
  · replace h := And.right h c2
    refine lv_aload_n hx hb dX5_loss_5 rfl (lv_at hl 0 rfl) ?_
    refine lv_iload_n hx hb dX5_loss_6 rfl (lv_at hl 1 rfl) ?_
    refine zc_r (va_runV (As := [.int i1]) (rest := []) ⟨hx, hb, hml, hown, htB⟩ (c_X5_isWalker l D cy ah S i1 h) (cwV 1 htB (zgV zm_341 zm_343 zm_344 zm_263 zm_342) rfl rfl rfl hd_X5_isWalker ⟨Nat.le_of_ble_eq_true rfl, Nat.le_of_ble_eq_true rfl⟩) ⟨zR_blind, va_recv hK hP (ci := 5) (q0 := 0) rfl rfl, zR_pre hP hK hN⟩ rfl rfl hl.1 rfl (lv_room (Nat.le_of_ble_eq_true rfl)) dX5_loss_7 ⟨Nat.zero_le _, Nat.zero_le _⟩) (fun r7 h => ?_)
    refine lv_if_ne (tgt := 19) hx hb dX5_loss_10 (by decide) (fun c10 => ?_) (fun c10 => ?_)
    · replace h := And.right h c10
      exact L19 S h H locs hP hD hS ls (lv_sub hl [0, 1] rfl)
    · replace h := And.left h c10
      refine lv_aload_n hx hb dX5_loss_13 rfl (lv_at hl 0 rfl) ?_
      refine lv_iconst (v := (-1 : Int32)) hx hb dX5_loss_14 (by decide) ?_
      refine zc_if (ws' := fun u => (bX5 ah cy u)) (va_runV (As := [.int (-1 : Int32)]) (rest := []) ⟨hx, hb, hml, hown, htB⟩ (c_X5_no l D cy ah H.size (-1 : Int32) S h) (cwV 1 htB (zgV zm_261 zm_264 zm_265 zm_263 zm_262) rfl rfl rfl hd_X5_no ⟨Nat.le_of_ble_eq_true rfl, Nat.le_of_ble_eq_true rfl⟩) ⟨zM_blind, va_recv hK hP (ci := 5) (q0 := 0) rfl rfl, zM_pre hP hK hN hD⟩ rfl rfl hl.1 rfl (lv_room (Nat.le_of_ble_eq_true rfl)) dX5_loss_15 ⟨Nat.zero_le _, Nat.zero_le _⟩) hS hA hP hD (fun u => rfl) (fun u => rfl) (fun r15 u H locs h hP hD hS => ?_)
      obtain ⟨S_15, eu⟩ : ∃ z, z = u := ⟨_, rfl⟩
      subst eu
      replace hP : va_P D zCl (bX5 ah cy S_15) H := hP
      replace hD : va_D A (bX5 ah cy S_15) := hD
      exact W.iret (v := r15) hx hb hr (fun t ht hW => ⟨⟨_, S_15, rfl, h, zP_h ht hP⟩, hS.F ht⟩) hS.2.2 dX5_loss_18
set_option maxHeartbeats 4000000 in
set_option maxRecDepth 100000 in
theorem c_X5_heldMany (l : Launch) (D : va_G) (cy : ClassId) (ah : Nat → Nat) (S : zT) {Q : Int32 → Prop} (h : wp_X5_heldMany S Q) : Met l yX5_heldMany w_X5_heldMany rm_X5_heldMany (va_Pc [.ref (ah 99)] (zR D cy (bX5 ah cy S))) (vp_Si Q) 0 0 (fun _ => False) := by
  refine zOf_r (by decide) (Nat.le_of_ble_eq_true rfl) ?_
  intro p e s m below meth c ls hx hb hr hml hown htB hlocks hK hN hP hl
  replace hl : lv_has ls 3 [(0, .ref (ah 99))] := hl
  have L4 : ∀ (k4 : Nat) (x1 : Int32) (x2 : Int32), wpl_X5_heldMany_4 S Q k4 x1 x2 → ∀ ls : Array Slot, lv_has ls 3 [(0, .ref (ah 99)), (1, .int x1), (2, .int x2)] → W p l e rm_X5_heldMany s m ([.ref (ah 99)] : List Value).toArray below meth c s.heap [] 0 0 (MQ below (vp_Si Q) ([.ref (ah 99)] : List Value).toArray s 0 0 (fun _ => False)) (F0 m 4 ls []) := by
    intro k4
    induction k4 with
    | zero => exact fun x1 x2 h => False.elim h
    | succ k4 ih4 =>
      have L27 : ∀ (x2 : Int32) (t0 : Int32) (t1 : Int32), wpb_X5_heldMany_27 S Q (wpl_X5_heldMany_4 S Q k4) x2 t0 t1 → ∀ ls : Array Slot, lv_has ls 3 [(0, .ref (ah 99)), (2, .int x2)] → W p l e rm_X5_heldMany s m ([.ref (ah 99)] : List Value).toArray below meth c s.heap [] 0 0 (MQ below (vp_Si Q) ([.ref (ah 99)] : List Value).toArray s 0 0 (fun _ => False)) (F0 m 27 ls [.int t1, .int t0]) := by
        intro x2 t0 t1 h ls hl
        refine lv_iadd hx hb dX5_heldMany_27 ?_
        refine lv_topi (fun y28 ey28 => ?_)
        replace h := h y28 ey28
        refine lv_istore_n (lv' := [(1, .int y28), (0, .ref (ah 99)), (2, .int x2)]) hx hb dX5_heldMany_28 rfl hl (by decide) rfl (fun ls hl => ?_)
        obtain ⟨y29, ey29⟩ : ∃ z : Int32, z = (x2 + (1 : Int32)) := ⟨_, rfl⟩
        replace h := h y29 ey29
        refine lv_iinc (v := y29) (lv' := [(2, .int y29), (1, .int y28), (0, .ref (ah 99))]) hx hb dX5_heldMany_29 hl (k := 2) rfl (by rw [ey29]; rfl) (by decide) rfl (fun ls hl => ?_)
        refine lv_goto (tgt := 4) hx hb dX5_heldMany_32 (by decide) ?_
        exact ih4 y28 y29 h ls (lv_sub hl [2, 1, 0] rfl)
      intro x1 x2 h ls hl
      refine lv_iload_n hx hb dX5_heldMany_4 rfl (lv_at hl 2 rfl) ?_
      refine lv_aload_n hx hb dX5_heldMany_5 rfl (lv_at hl 0 rfl) ?_
      refine va_get (D := D) (ci := 5) (v := .int (S 13 0)) (C := RX5) (T := TX5) (N := 41) hx hb htB ziX5 hown hK hP 0 rfl rfl 13 (by decide) (htB _ zm_258) (fun _ h9 => h9) rfl dX5_heldMany_6 ?_
      refine lv_icmp_ge (tgt := 35) hx hb dX5_heldMany_9 (by decide) (fun c9 => ?_) (fun c9 => ?_)
      · replace h := And.left h c9
        refine lv_iload_n hx hb dX5_heldMany_35 rfl (lv_at hl 1 rfl) ?_
        exact W.iret (v := x1) hx hb hr (fun t ht hW => ⟨_, rfl, h, ht⟩) (fun q hq => by cases hq) dX5_heldMany_36
      · replace h := And.right h c9
        refine lv_iload_n hx hb dX5_heldMany_12 rfl (lv_at hl 1 rfl) ?_
        refine lv_aload_n hx hb dX5_heldMany_13 rfl (lv_at hl 0 rfl) ?_
        refine va_get (D := D) (ci := 5) (v := .ref (ah 31)) (C := RX5) (T := TX5) (N := 41) hx hb htB ziX5 hown hK hP 0 rfl rfl 31 (by decide) (htB _ zm_365) (fun _ h9 => h9) rfl dX5_heldMany_14 ?_
        refine lv_iload_n hx hb dX5_heldMany_17 rfl (lv_at hl 2 rfl) ?_
        refine va_iald (D := D) hx hb hK hP 24 0 rfl rfl (And.left h) dX5_heldMany_18 ?_
        replace h := And.right h
        refine lv_if_lt (tgt := 26) hx hb dX5_heldMany_19 (by decide) (fun c19 => ?_) (fun c19 => ?_)
        · replace h := And.left h c19
          refine lv_iconst (v := (0 : Int32)) hx hb dX5_heldMany_26 (by decide) ?_
          exact L27 x2 x1 (0 : Int32) h ls (lv_sub hl [0, 2] rfl)
        · replace h := And.right h c19
          refine lv_iconst (v := (1 : Int32)) hx hb dX5_heldMany_22 (by decide) ?_
          refine lv_goto (tgt := 27) hx hb dX5_heldMany_23 (by decide) ?_
          exact L27 x2 x1 (1 : Int32) h ls (lv_sub hl [0, 2] rfl)
  refine lv_iconst (v := (0 : Int32)) hx hb dX5_heldMany_0 (by decide) ?_
  refine lv_istore_n (lv' := [(1, .int (0 : Int32)), (0, .ref (ah 99))]) hx hb dX5_heldMany_1 rfl hl (by decide) rfl (fun ls hl => ?_)
  refine lv_iconst (v := (0 : Int32)) hx hb dX5_heldMany_2 (by decide) ?_
  refine lv_istore_n (lv' := [(2, .int (0 : Int32)), (1, .int (0 : Int32)), (0, .ref (ah 99))]) hx hb dX5_heldMany_3 rfl hl (by decide) rfl (fun ls hl => ?_)
  obtain ⟨nn, h⟩ := h
  exact L4 nn (0 : Int32) (0 : Int32) h ls (lv_sub hl [2, 1, 0] rfl)
set_option maxHeartbeats 4000000 in
set_option maxRecDepth 100000 in
theorem c_X5_holds (l : Launch) (D : va_G) (cy : ClassId) (ah : Nat → Nat) (sz : Nat) (S : zT) {Q : Int32 → zT → Prop} (h : wp_X5_holds S Q) : Met l yX5_holds w_X5_holds rm_X5_holds (va_Pc [.ref (ah 99)] (zM D cy (bX5 ah cy S) sz)) (va_Qi (S := zT) (fun (r : Int32) (u : zT) => Q r u) (fun u t => va_P D zCl ((fun (u : zT) => (bX5 ah cy u)) u) t.heap) (va_A (bX5 ah cy S) sz)) 0 0 (va_A (bX5 ah cy S) sz) := by
  refine zOf_i (by decide) (Nat.le_of_ble_eq_true rfl) ?_
  intro p e s m below meth c ls A H locs hx hb hr hml hown htB hlocks hK hN hP hD hS hA hl
  replace hl : lv_has ls 1 [(0, .ref (ah 99))] := hl
  refine lv_aload_n hx hb dX5_holds_0 rfl (lv_at hl 0 rfl) ?_
  refine zc_vf (ws' := fun u => (bX5 ah cy u)) (va_runV (As := []) (rest := []) ⟨hx, hb, hml, hown, htB⟩ (c_X5_goesAll l D cy ah H.size S h) (cwV 0 htB (zgV zm_400 zm_402 zm_403 zm_263 zm_401) rfl rfl rfl hd_X5_goesAll ⟨Nat.le_of_ble_eq_true rfl, Nat.le_of_ble_eq_true rfl⟩) ⟨zM_blind, va_recv hK hP (ci := 5) (q0 := 0) rfl rfl, zM_pre hP hK hN hD⟩ rfl rfl hl.1 rfl (lv_room (Nat.le_of_ble_eq_true rfl)) dX5_holds_1 ⟨Nat.zero_le _, Nat.zero_le _⟩) hS hA hP hD (fun u => rfl) (fun u => rfl) (fun u H locs h hP hD hS => ?_)
  obtain ⟨S_1, eu⟩ : ∃ z, z = u := ⟨_, rfl⟩
  subst eu
  replace hP : va_P D zCl (bX5 ah cy S_1) H := hP
  replace hD : va_D A (bX5 ah cy S_1) := hD
  refine lv_aload_n hx hb dX5_holds_4 rfl (lv_at hl 0 rfl) ?_
  refine zc_r (va_runV (As := []) (rest := []) ⟨hx, hb, hml, hown, htB⟩ (c_X5_heldMany l D cy ah S_1 h) (cwV 0 htB (zgV zm_408 zm_410 zm_411 zm_263 zm_409) rfl rfl rfl hd_X5_heldMany ⟨Nat.le_of_ble_eq_true rfl, Nat.le_of_ble_eq_true rfl⟩) ⟨zR_blind, va_recv hK hP (ci := 5) (q0 := 0) rfl rfl, zR_pre hP hK hN⟩ rfl rfl hl.1 rfl (lv_room (Nat.le_of_ble_eq_true rfl)) dX5_holds_5 ⟨Nat.zero_le _, Nat.zero_le _⟩) (fun r5 h => ?_)
  exact W.iret (v := r5) hx hb hr (fun t ht hW => ⟨⟨_, S_1, rfl, h, zP_h ht hP⟩, hS.F ht⟩) hS.2.2 dX5_holds_8
set_option maxHeartbeats 4000000 in
set_option maxRecDepth 100000 in
theorem c_X5_longest (l : Launch) (D : va_G) (cy : ClassId) (ah : Nat → Nat) (sz : Nat) (S : zT) {Q : Int32 → zT → Prop} (h : wp_X5_longest S Q) : Met l yX5_longest w_X5_longest rm_X5_longest (va_Pc [.ref (ah 99)] (zM D cy (bX5 ah cy S) sz)) (va_Qi (S := zT) (fun (r : Int32) (u : zT) => Q r u) (fun u t => va_P D zCl ((fun (u : zT) => (bX5 ah cy u)) u) t.heap) (va_A (bX5 ah cy S) sz)) 0 0 (va_A (bX5 ah cy S) sz) := by
  refine zOf_i (by decide) (Nat.le_of_ble_eq_true rfl) ?_
  intro p e s m below meth c ls A H locs hx hb hr hml hown htB hlocks hK hN hP hD hS hA hl
  replace hl : lv_has ls 3 [(0, .ref (ah 99))] := hl
  have L8 : ∀ (k8 : Nat) (x1 : Int32) (x2 : Int32) (S : zT), wpl_X5_longest_8 Q k8 x1 x2 S → ∀ (H : Heap) (locs : List Loc), va_P D zCl (bX5 ah cy S) H → va_D A (bX5 ah cy S) → va_S A s.heap H locs → ∀ ls : Array Slot, lv_has ls 3 [(0, .ref (ah 99)), (1, .int x1), (2, .int x2)] → W p l e rm_X5_longest s m ([.ref (ah 99)] : List Value).toArray below meth c H locs 0 0 (MQ below (va_Qi (S := zT) (fun (r : Int32) (u : zT) => Q r u) (fun u t => va_P D zCl ((fun (u : zT) => (bX5 ah cy u)) u) t.heap) A) ([.ref (ah 99)] : List Value).toArray s 0 0 A) (F0 m 8 ls []) := by
    intro k8
    induction k8 with
    | zero => exact fun x1 x2 S h => False.elim h
    | succ k8 ih8 =>
      have L36 : ∀ (x2 : Int32) (t0 : Int32) (S : zT), wpb_X5_longest_36 Q (wpl_X5_longest_8 Q k8) x2 t0 S → ∀ (H : Heap) (locs : List Loc), va_P D zCl (bX5 ah cy S) H → va_D A (bX5 ah cy S) → va_S A s.heap H locs → ∀ ls : Array Slot, lv_has ls 3 [(0, .ref (ah 99)), (2, .int x2)] → W p l e rm_X5_longest s m ([.ref (ah 99)] : List Value).toArray below meth c H locs 0 0 (MQ below (va_Qi (S := zT) (fun (r : Int32) (u : zT) => Q r u) (fun u t => va_P D zCl ((fun (u : zT) => (bX5 ah cy u)) u) t.heap) A) ([.ref (ah 99)] : List Value).toArray s 0 0 A) (F0 m 36 ls [.int t0]) := by
        intro x2 t0 S h H locs hP hD hS ls hl
        refine lv_istore_n (lv' := [(1, .int t0), (0, .ref (ah 99)), (2, .int x2)]) hx hb dX5_longest_36 rfl hl (by decide) rfl (fun ls hl => ?_)
        obtain ⟨y37, ey37⟩ : ∃ z : Int32, z = (x2 + (1 : Int32)) := ⟨_, rfl⟩
        replace h := h y37 ey37
        refine lv_iinc (v := y37) (lv' := [(2, .int y37), (1, .int t0), (0, .ref (ah 99))]) hx hb dX5_longest_37 hl (k := 2) rfl (by rw [ey37]; rfl) (by decide) rfl (fun ls hl => ?_)
        refine lv_goto (tgt := 8) hx hb dX5_longest_40 (by decide) ?_
        exact ih8 t0 y37 S h H locs hP hD hS ls (lv_sub hl [2, 1, 0] rfl)
      intro x1 x2 S h H locs hP hD hS ls hl
      refine lv_iload_n hx hb dX5_longest_8 rfl (lv_at hl 2 rfl) ?_
      refine lv_aload_n hx hb dX5_longest_9 rfl (lv_at hl 0 rfl) ?_
      refine va_get (D := D) (ci := 5) (v := .int (S 13 0)) (C := RX5) (T := TX5) (N := 41) hx hb htB ziX5 hown hK hP 0 rfl rfl 13 (by decide) (htB _ zm_258) (fun _ h9 => h9) rfl dX5_longest_10 ?_
      refine lv_icmp_ge (tgt := 43) hx hb dX5_longest_13 (by decide) (fun c13 => ?_) (fun c13 => ?_)
      · replace h := And.left h c13
        refine lv_iload_n hx hb dX5_longest_43 rfl (lv_at hl 1 rfl) ?_
        exact W.iret (v := x1) hx hb hr (fun t ht hW => ⟨⟨_, S, rfl, h, zP_h ht hP⟩, hS.F ht⟩) hS.2.2 dX5_longest_44
      · replace h := And.right h c13
        refine lv_aload_n hx hb dX5_longest_16 rfl (lv_at hl 0 rfl) ?_
        refine va_get (D := D) (ci := 5) (v := .ref (ah 30)) (C := RX5) (T := TX5) (N := 41) hx hb htB ziX5 hown hK hP 0 rfl rfl 30 (by decide) (htB _ zm_371) (fun _ h9 => h9) rfl dX5_longest_17 ?_
        refine lv_iload_n hx hb dX5_longest_20 rfl (lv_at hl 2 rfl) ?_
        refine va_iald (D := D) hx hb hK hP 23 0 rfl rfl (And.left h) dX5_longest_21 ?_
        replace h := And.right h
        refine lv_iload_n hx hb dX5_longest_22 rfl (lv_at hl 1 rfl) ?_
        refine lv_icmp_le (tgt := 35) hx hb dX5_longest_23 (by decide) (fun c23 => ?_) (fun c23 => ?_)
        · replace h := And.left h c23
          refine lv_iload_n hx hb dX5_longest_35 rfl (lv_at hl 1 rfl) ?_
          exact L36 x2 x1 S h H locs hP hD hS ls (lv_sub hl [0, 2] rfl)
        · replace h := And.right h c23
          refine lv_aload_n hx hb dX5_longest_26 rfl (lv_at hl 0 rfl) ?_
          refine va_get (D := D) (ci := 5) (v := .ref (ah 30)) (C := RX5) (T := TX5) (N := 41) hx hb htB ziX5 hown hK hP 0 rfl rfl 30 (by decide) (htB _ zm_371) (fun _ h9 => h9) rfl dX5_longest_27 ?_
          refine lv_iload_n hx hb dX5_longest_30 rfl (lv_at hl 2 rfl) ?_
          refine va_iald (D := D) hx hb hK hP 23 0 rfl rfl (And.left h) dX5_longest_31 ?_
          replace h := And.right h
          refine lv_goto (tgt := 36) hx hb dX5_longest_32 (by decide) ?_
          exact L36 x2 (S 30 x2.toNatClampNeg) S h H locs hP hD hS ls (lv_sub hl [0, 2] rfl)
  refine lv_aload_n hx hb dX5_longest_0 rfl (lv_at hl 0 rfl) ?_
  refine zc_vf (ws' := fun u => (bX5 ah cy u)) (va_runV (As := []) (rest := []) ⟨hx, hb, hml, hown, htB⟩ (c_X5_goesAll l D cy ah H.size S h) (cwV 0 htB (zgV zm_400 zm_402 zm_403 zm_263 zm_401) rfl rfl rfl hd_X5_goesAll ⟨Nat.le_of_ble_eq_true rfl, Nat.le_of_ble_eq_true rfl⟩) ⟨zM_blind, va_recv hK hP (ci := 5) (q0 := 0) rfl rfl, zM_pre hP hK hN hD⟩ rfl rfl hl.1 rfl (lv_room (Nat.le_of_ble_eq_true rfl)) dX5_longest_1 ⟨Nat.zero_le _, Nat.zero_le _⟩) hS hA hP hD (fun u => rfl) (fun u => rfl) (fun u H locs h hP hD hS => ?_)
  obtain ⟨S_1, eu⟩ : ∃ z, z = u := ⟨_, rfl⟩
  subst eu
  replace hP : va_P D zCl (bX5 ah cy S_1) H := hP
  replace hD : va_D A (bX5 ah cy S_1) := hD
  refine lv_iconst (v := (0 : Int32)) hx hb dX5_longest_4 (by decide) ?_
  refine lv_istore_n (lv' := [(1, .int (0 : Int32)), (0, .ref (ah 99))]) hx hb dX5_longest_5 rfl hl (by decide) rfl (fun ls hl => ?_)
  refine lv_iconst (v := (0 : Int32)) hx hb dX5_longest_6 (by decide) ?_
  refine lv_istore_n (lv' := [(2, .int (0 : Int32)), (1, .int (0 : Int32)), (0, .ref (ah 99))]) hx hb dX5_longest_7 rfl hl (by decide) rfl (fun ls hl => ?_)
  obtain ⟨nn, h⟩ := h
  exact L8 nn (0 : Int32) (0 : Int32) S_1 h H locs hP hD hS ls (lv_sub hl [2, 1, 0] rfl)
set_option maxHeartbeats 4000000 in
set_option maxRecDepth 100000 in
theorem c_X5_away (l : Launch) (D : va_G) (cy : ClassId) (ah : Nat → Nat) (sz : Nat) (S : zT) {Q : Int32 → zT → Prop} (h : wp_X5_away S Q) : Met l yX5_away w_X5_away rm_X5_away (va_Pc [.ref (ah 99)] (zM D cy (bX5 ah cy S) sz)) (va_Qi (S := zT) (fun (r : Int32) (u : zT) => Q r u) (fun u t => va_P D zCl ((fun (u : zT) => (bX5 ah cy u)) u) t.heap) (va_A (bX5 ah cy S) sz)) 0 0 (va_A (bX5 ah cy S) sz) := by
  refine zOf_i (by decide) (Nat.le_of_ble_eq_true rfl) ?_
  intro p e s m below meth c ls A H locs hx hb hr hml hown htB hlocks hK hN hP hD hS hA hl
  replace hl : lv_has ls 1 [(0, .ref (ah 99))] := hl
  refine lv_aload_n hx hb dX5_away_0 rfl (lv_at hl 0 rfl) ?_
  refine zc_vf (ws' := fun u => (bX5 ah cy u)) (va_runV (As := []) (rest := []) ⟨hx, hb, hml, hown, htB⟩ (c_X5_goesAll l D cy ah H.size S h) (cwV 0 htB (zgV zm_400 zm_402 zm_403 zm_263 zm_401) rfl rfl rfl hd_X5_goesAll ⟨Nat.le_of_ble_eq_true rfl, Nat.le_of_ble_eq_true rfl⟩) ⟨zM_blind, va_recv hK hP (ci := 5) (q0 := 0) rfl rfl, zM_pre hP hK hN hD⟩ rfl rfl hl.1 rfl (lv_room (Nat.le_of_ble_eq_true rfl)) dX5_away_1 ⟨Nat.zero_le _, Nat.zero_le _⟩) hS hA hP hD (fun u => rfl) (fun u => rfl) (fun u H locs h hP hD hS => ?_)
  obtain ⟨S_1, eu⟩ : ∃ z, z = u := ⟨_, rfl⟩
  subst eu
  replace hP : va_P D zCl (bX5 ah cy S_1) H := hP
  replace hD : va_D A (bX5 ah cy S_1) := hD
  refine lv_aload_n hx hb dX5_away_4 rfl (lv_at hl 0 rfl) ?_
  refine va_get (D := D) (ci := 5) (v := .int (S_1 36 0)) (C := RX5) (T := TX5) (N := 41) hx hb htB ziX5 hown hK hP 0 rfl rfl 36 (by decide) (htB _ zm_369) (fun _ h9 => h9) rfl dX5_away_5 ?_
  refine lv_if_ne (tgt := 16) hx hb dX5_away_8 (by decide) (fun c8 => ?_) (fun c8 => ?_)
  · replace h := And.right h c8
    refine lv_aload_n hx hb dX5_away_16 rfl (lv_at hl 0 rfl) ?_
    refine va_get (D := D) (ci := 5) (v := .ref (ah 28)) (C := RX5) (T := TX5) (N := 41) hx hb htB ziX5 hown hK hP 0 rfl rfl 28 (by decide) (htB _ zm_364) (fun _ h9 => h9) rfl dX5_away_17 ?_
    refine lv_aload_n hx hb dX5_away_20 rfl (lv_at hl 0 rfl) ?_
    refine va_get (D := D) (ci := 5) (v := .ref (ah 26)) (C := RX5) (T := TX5) (N := 41) hx hb htB ziX5 hown hK hP 0 rfl rfl 26 (by decide) (htB _ zm_378) (fun _ h9 => h9) rfl dX5_away_21 ?_
    refine lv_iconst (v := (0 : Int32)) hx hb dX5_away_24 (by decide) ?_
    refine va_iald (D := D) hx hb hK hP 19 0 rfl rfl (And.left h) dX5_away_25 ?_
    replace h := And.right h
    refine va_iald (D := D) hx hb hK hP 21 0 rfl rfl (And.left h) dX5_away_26 ?_
    replace h := And.right h
    refine lv_aload_n hx hb dX5_away_27 rfl (lv_at hl 0 rfl) ?_
    refine va_get (D := D) (ci := 5) (v := .ref (ah 30)) (C := RX5) (T := TX5) (N := 41) hx hb htB ziX5 hown hK hP 0 rfl rfl 30 (by decide) (htB _ zm_371) (fun _ h9 => h9) rfl dX5_away_28 ?_
    refine lv_aload_n hx hb dX5_away_31 rfl (lv_at hl 0 rfl) ?_
    refine va_get (D := D) (ci := 5) (v := .ref (ah 26)) (C := RX5) (T := TX5) (N := 41) hx hb htB ziX5 hown hK hP 0 rfl rfl 26 (by decide) (htB _ zm_378) (fun _ h9 => h9) rfl dX5_away_32 ?_
    refine lv_iconst (v := (0 : Int32)) hx hb dX5_away_35 (by decide) ?_
    refine va_iald (D := D) hx hb hK hP 19 0 rfl rfl (And.left h) dX5_away_36 ?_
    replace h := And.right h
    refine va_iald (D := D) hx hb hK hP 23 0 rfl rfl (And.left h) dX5_away_37 ?_
    replace h := And.right h
    refine lv_iadd hx hb dX5_away_38 ?_
    exact W.iret (v := ((S_1 28 (S_1 26 (0 : Int32).toNatClampNeg).toNatClampNeg) + (S_1 30 (S_1 26 (0 : Int32).toNatClampNeg).toNatClampNeg))) hx hb hr (fun t ht hW => ⟨⟨_, S_1, rfl, h, zP_h ht hP⟩, hS.F ht⟩) hS.2.2 dX5_away_39
  · replace h := And.left h c8
    refine lv_bipush (v := (-9 : Int32)) hx hb dX5_away_11 (by decide) ?_
    refine lv_goto (tgt := 39) hx hb dX5_away_13 (by decide) ?_
    exact W.iret (v := (-9 : Int32)) hx hb hr (fun t ht hW => ⟨⟨_, S_1, rfl, h, zP_h ht hP⟩, hS.F ht⟩) hS.2.2 dX5_away_39
set_option maxHeartbeats 4000000 in
set_option maxRecDepth 100000 in
theorem c_X5_openSeconds (l : Launch) (D : va_G) (cy : ClassId) (ah : Nat → Nat) (S : zT) {Q : Int32 → Prop} (h : wp_X5_openSeconds S Q) : Met l yX5_openSeconds w_X5_openSeconds rm_X5_openSeconds (va_Pc [.ref (ah 99)] (zR D cy (bX5 ah cy S))) (vp_Si Q) 0 0 (fun _ => False) := by
  refine zOf_r (by decide) (Nat.le_of_ble_eq_true rfl) ?_
  intro p e s m below meth c ls hx hb hr hml hown htB hlocks hK hN hP hl
  replace hl : lv_has ls 5 [(0, .ref (ah 99))] := hl
  have L6 : ∀ (k6 : Nat) (x1 : Int32) (x2 : Int32) (x3 : Int32), wpl_X5_openSeconds_6 S Q k6 x1 x2 x3 → ∀ ls : Array Slot, lv_has ls 5 [(0, .ref (ah 99)), (1, .int x1), (2, .int x2), (3, .int x3)] → W p l e rm_X5_openSeconds s m ([.ref (ah 99)] : List Value).toArray below meth c s.heap [] 0 0 (MQ below (vp_Si Q) ([.ref (ah 99)] : List Value).toArray s 0 0 (fun _ => False)) (F0 m 6 ls []) := by
    intro k6
    induction k6 with
    | zero => exact fun x1 x2 x3 h => False.elim h
    | succ k6 ih6 =>
      have L69 : ∀ (x1 : Int32) (x2 : Int32) (x3 : Int32), wpb_X5_openSeconds_69 S Q (wpl_X5_openSeconds_6 S Q k6) x1 x2 x3 → ∀ ls : Array Slot, lv_has ls 5 [(0, .ref (ah 99)), (1, .int x1), (2, .int x2), (3, .int x3)] → W p l e rm_X5_openSeconds s m ([.ref (ah 99)] : List Value).toArray below meth c s.heap [] 0 0 (MQ below (vp_Si Q) ([.ref (ah 99)] : List Value).toArray s 0 0 (fun _ => False)) (F0 m 69 ls []) := by
        intro x1 x2 x3 h ls hl
        obtain ⟨y69, ey69⟩ : ∃ z : Int32, z = (x3 + (1 : Int32)) := ⟨_, rfl⟩
        replace h := h y69 ey69
        refine lv_iinc (v := y69) (lv' := [(3, .int y69), (0, .ref (ah 99)), (1, .int x1), (2, .int x2)]) hx hb dX5_openSeconds_69 hl (k := 3) rfl (by rw [ey69]; rfl) (by decide) rfl (fun ls hl => ?_)
        refine lv_goto (tgt := 6) hx hb dX5_openSeconds_72 (by decide) ?_
        exact ih6 x1 x2 y69 h ls (lv_sub hl [1, 2, 3, 0] rfl)
      have L34 : ∀ (x1 : Int32) (x2 : Int32) (x3 : Int32) (t0 : Int32), wpb_X5_openSeconds_34 S Q (wpl_X5_openSeconds_6 S Q k6) x1 x2 x3 t0 → ∀ ls : Array Slot, lv_has ls 5 [(0, .ref (ah 99)), (1, .int x1), (2, .int x2), (3, .int x3)] → W p l e rm_X5_openSeconds s m ([.ref (ah 99)] : List Value).toArray below meth c s.heap [] 0 0 (MQ below (vp_Si Q) ([.ref (ah 99)] : List Value).toArray s 0 0 (fun _ => False)) (F0 m 34 ls [.int t0]) := by
        intro x1 x2 x3 t0 h ls hl
        refine lv_istore (lv' := [(4, .int t0), (0, .ref (ah 99)), (1, .int x1), (2, .int x2), (3, .int x3)]) hx hb dX5_openSeconds_34 hl (by decide) rfl (fun ls hl => ?_)
        refine lv_aload_n hx hb dX5_openSeconds_36 rfl (lv_at hl 1 rfl) ?_
        refine va_get (D := D) (ci := 5) (v := .ref (ah 34)) (C := RX5) (T := TX5) (N := 41) hx hb htB ziX5 hown hK hP 0 rfl rfl 34 (by decide) (htB _ zm_372) (fun _ h9 => h9) rfl dX5_openSeconds_37 ?_
        refine lv_iload_n hx hb dX5_openSeconds_40 rfl (lv_at hl 4 rfl) ?_
        refine va_iald (D := D) hx hb hK hP 27 0 rfl rfl (And.left h) dX5_openSeconds_41 ?_
        replace h := And.right h
        refine lv_iload hx hb dX5_openSeconds_42 (lv_at hl 0 rfl) ?_
        refine lv_icmp_gt (tgt := 50) hx hb dX5_openSeconds_44 (by decide) (fun c44 => ?_) (fun c44 => ?_)
        · replace h := And.left h c44
          refine lv_iload_n hx hb dX5_openSeconds_50 rfl (lv_at hl 2 rfl) ?_
          refine lv_aload_n hx hb dX5_openSeconds_51 rfl (lv_at hl 1 rfl) ?_
          refine va_get (D := D) (ci := 5) (v := .ref (ah 34)) (C := RX5) (T := TX5) (N := 41) hx hb htB ziX5 hown hK hP 0 rfl rfl 34 (by decide) (htB _ zm_372) (fun _ h9 => h9) rfl dX5_openSeconds_52 ?_
          refine lv_iload_n hx hb dX5_openSeconds_55 rfl (lv_at hl 4 rfl) ?_
          refine va_iald (D := D) hx hb hK hP 27 0 rfl rfl (And.left h) dX5_openSeconds_56 ?_
          replace h := And.right h
          refine lv_iload hx hb dX5_openSeconds_57 (lv_at hl 0 rfl) ?_
          refine lv_isub hx hb dX5_openSeconds_59 ?_
          refine lv_iadd hx hb dX5_openSeconds_60 ?_
          refine lv_topi (fun y61 ey61 => ?_)
          replace h := h y61 ey61
          refine lv_istore_n (lv' := [(1, .int y61), (4, .int t0), (0, .ref (ah 99)), (2, .int x2), (3, .int x3)]) hx hb dX5_openSeconds_61 rfl hl (by decide) rfl (fun ls hl => ?_)
          refine lv_aload_n hx hb dX5_openSeconds_62 rfl (lv_at hl 2 rfl) ?_
          refine va_get (D := D) (ci := 5) (v := .ref (ah 34)) (C := RX5) (T := TX5) (N := 41) hx hb htB ziX5 hown hK hP 0 rfl rfl 34 (by decide) (htB _ zm_372) (fun _ h9 => h9) rfl dX5_openSeconds_63 ?_
          refine lv_iload_n hx hb dX5_openSeconds_66 rfl (lv_at hl 4 rfl) ?_
          refine va_iald (D := D) hx hb hK hP 27 0 rfl rfl (And.left h) dX5_openSeconds_67 ?_
          replace h := And.right h
          refine lv_topi (fun y68 ey68 => ?_)
          replace h := h y68 ey68
          refine lv_istore_n (lv' := [(2, .int y68), (1, .int y61), (4, .int t0), (0, .ref (ah 99)), (3, .int x3)]) hx hb dX5_openSeconds_68 rfl hl (by decide) rfl (fun ls hl => ?_)
          exact L69 y61 y68 x3 h ls (lv_sub hl [3, 1, 0, 4] rfl)
        · replace h := And.right h c44
          refine lv_goto (tgt := 69) hx hb dX5_openSeconds_47 (by decide) ?_
          exact L69 x1 x2 x3 h ls (lv_sub hl [1, 2, 3, 4] rfl)
      intro x1 x2 x3 h ls hl
      refine lv_iload_n hx hb dX5_openSeconds_6 rfl (lv_at hl 3 rfl) ?_
      refine lv_aload_n hx hb dX5_openSeconds_7 rfl (lv_at hl 0 rfl) ?_
      refine va_get (D := D) (ci := 5) (v := .int (S 37 0)) (C := RX5) (T := TX5) (N := 41) hx hb htB ziX5 hown hK hP 0 rfl rfl 37 (by decide) (htB _ zm_373) (fun _ h9 => h9) rfl dX5_openSeconds_8 ?_
      refine lv_icmp_ge (tgt := 75) hx hb dX5_openSeconds_11 (by decide) (fun c11 => ?_) (fun c11 => ?_)
      · replace h := And.left h c11
        refine lv_iload_n hx hb dX5_openSeconds_75 rfl (lv_at hl 1 rfl) ?_
        exact W.iret (v := x1) hx hb hr (fun t ht hW => ⟨_, rfl, h, ht⟩) (fun q hq => by cases hq) dX5_openSeconds_76
      · replace h := And.right h c11
        refine lv_aload_n hx hb dX5_openSeconds_14 rfl (lv_at hl 0 rfl) ?_
        refine va_get (D := D) (ci := 5) (v := .ref (ah 33)) (C := RX5) (T := TX5) (N := 41) hx hb htB ziX5 hown hK hP 0 rfl rfl 33 (by decide) (htB _ zm_391) (fun _ h9 => h9) rfl dX5_openSeconds_15 ?_
        refine lv_iload_n hx hb dX5_openSeconds_18 rfl (lv_at hl 3 rfl) ?_
        refine va_iald (D := D) hx hb hK hP 26 0 rfl rfl (And.left h) dX5_openSeconds_19 ?_
        replace h := And.right h
        refine lv_iload_n hx hb dX5_openSeconds_20 rfl (lv_at hl 2 rfl) ?_
        refine lv_icmp_le (tgt := 33) hx hb dX5_openSeconds_21 (by decide) (fun c21 => ?_) (fun c21 => ?_)
        · replace h := And.left h c21
          refine lv_iload_n hx hb dX5_openSeconds_33 rfl (lv_at hl 2 rfl) ?_
          exact L34 x1 x2 x3 x2 h ls (lv_sub hl [0, 1, 2, 3] rfl)
        · replace h := And.right h c21
          refine lv_aload_n hx hb dX5_openSeconds_24 rfl (lv_at hl 0 rfl) ?_
          refine va_get (D := D) (ci := 5) (v := .ref (ah 33)) (C := RX5) (T := TX5) (N := 41) hx hb htB ziX5 hown hK hP 0 rfl rfl 33 (by decide) (htB _ zm_391) (fun _ h9 => h9) rfl dX5_openSeconds_25 ?_
          refine lv_iload_n hx hb dX5_openSeconds_28 rfl (lv_at hl 3 rfl) ?_
          refine va_iald (D := D) hx hb hK hP 26 0 rfl rfl (And.left h) dX5_openSeconds_29 ?_
          replace h := And.right h
          refine lv_goto (tgt := 34) hx hb dX5_openSeconds_30 (by decide) ?_
          exact L34 x1 x2 x3 (S 33 x3.toNatClampNeg) h ls (lv_sub hl [0, 1, 2, 3] rfl)
  refine lv_iconst (v := (0 : Int32)) hx hb dX5_openSeconds_0 (by decide) ?_
  refine lv_istore_n (lv' := [(1, .int (0 : Int32)), (0, .ref (ah 99))]) hx hb dX5_openSeconds_1 rfl hl (by decide) rfl (fun ls hl => ?_)
  refine lv_iconst (v := (0 : Int32)) hx hb dX5_openSeconds_2 (by decide) ?_
  refine lv_istore_n (lv' := [(2, .int (0 : Int32)), (1, .int (0 : Int32)), (0, .ref (ah 99))]) hx hb dX5_openSeconds_3 rfl hl (by decide) rfl (fun ls hl => ?_)
  refine lv_iconst (v := (0 : Int32)) hx hb dX5_openSeconds_4 (by decide) ?_
  refine lv_istore_n (lv' := [(3, .int (0 : Int32)), (2, .int (0 : Int32)), (1, .int (0 : Int32)), (0, .ref (ah 99))]) hx hb dX5_openSeconds_5 rfl hl (by decide) rfl (fun ls hl => ?_)
  obtain ⟨nn, h⟩ := h
  exact L6 nn (0 : Int32) (0 : Int32) (0 : Int32) h ls (lv_sub hl [3, 2, 1, 0] rfl)
set_option maxHeartbeats 4000000 in
set_option maxRecDepth 100000 in
theorem c_X5_open (l : Launch) (D : va_G) (cy : ClassId) (ah : Nat → Nat) (sz : Nat) (S : zT) {Q : Int32 → zT → Prop} (h : wp_X5_open S Q) : Met l yX5_open w_X5_open rm_X5_open (va_Pc [.ref (ah 99)] (zM D cy (bX5 ah cy S) sz)) (va_Qi (S := zT) (fun (r : Int32) (u : zT) => Q r u) (fun u t => va_P D zCl ((fun (u : zT) => (bX5 ah cy u)) u) t.heap) (va_A (bX5 ah cy S) sz)) 0 0 (va_A (bX5 ah cy S) sz) := by
  refine zOf_i (by decide) (Nat.le_of_ble_eq_true rfl) ?_
  intro p e s m below meth c ls A H locs hx hb hr hml hown htB hlocks hK hN hP hD hS hA hl
  replace hl : lv_has ls 1 [(0, .ref (ah 99))] := hl
  refine lv_aload_n hx hb dX5_open_0 rfl (lv_at hl 0 rfl) ?_
  refine zc_vf (ws' := fun u => (bX5 ah cy u)) (va_runV (As := []) (rest := []) ⟨hx, hb, hml, hown, htB⟩ (c_X5_goesAll l D cy ah H.size S h) (cwV 0 htB (zgV zm_400 zm_402 zm_403 zm_263 zm_401) rfl rfl rfl hd_X5_goesAll ⟨Nat.le_of_ble_eq_true rfl, Nat.le_of_ble_eq_true rfl⟩) ⟨zM_blind, va_recv hK hP (ci := 5) (q0 := 0) rfl rfl, zM_pre hP hK hN hD⟩ rfl rfl hl.1 rfl (lv_room (Nat.le_of_ble_eq_true rfl)) dX5_open_1 ⟨Nat.zero_le _, Nat.zero_le _⟩) hS hA hP hD (fun u => rfl) (fun u => rfl) (fun u H locs h hP hD hS => ?_)
  obtain ⟨S_1, eu⟩ : ∃ z, z = u := ⟨_, rfl⟩
  subst eu
  replace hP : va_P D zCl (bX5 ah cy S_1) H := hP
  replace hD : va_D A (bX5 ah cy S_1) := hD
  refine lv_aload_n hx hb dX5_open_4 rfl (lv_at hl 0 rfl) ?_
  refine zc_r (va_runV (As := []) (rest := []) ⟨hx, hb, hml, hown, htB⟩ (c_X5_openSeconds l D cy ah S_1 h) (cwV 0 htB (zgV zm_412 zm_414 zm_415 zm_263 zm_413) rfl rfl rfl hd_X5_openSeconds ⟨Nat.le_of_ble_eq_true rfl, Nat.le_of_ble_eq_true rfl⟩) ⟨zR_blind, va_recv hK hP (ci := 5) (q0 := 0) rfl rfl, zR_pre hP hK hN⟩ rfl rfl hl.1 rfl (lv_room (Nat.le_of_ble_eq_true rfl)) dX5_open_5 ⟨Nat.zero_le _, Nat.zero_le _⟩) (fun r5 h => ?_)
  exact W.iret (v := r5) hx hb hr (fun t ht hW => ⟨⟨_, S_1, rfl, h, zP_h ht hP⟩, hS.F ht⟩) hS.2.2 dX5_open_8
set_option maxHeartbeats 4000000 in
set_option maxRecDepth 100000 in
theorem c_X5_coals (l : Launch) (D : va_G) (cy : ClassId) (ah : Nat → Nat) (sz : Nat) (S : zT) {Q : Int32 → zT → Prop} (h : wp_X5_coals S Q) : Met l yX5_coals w_X5_coals rm_X5_coals (va_Pc [.ref (ah 99)] (zM D cy (bX5 ah cy S) sz)) (va_Qi (S := zT) (fun (r : Int32) (u : zT) => Q r u) (fun u t => va_P D zCl ((fun (u : zT) => (bX5 ah cy u)) u) t.heap) (va_A (bX5 ah cy S) sz)) 0 0 (va_A (bX5 ah cy S) sz) := by
  refine zOf_i (by decide) (Nat.le_of_ble_eq_true rfl) ?_
  intro p e s m below meth c ls A H locs hx hb hr hml hown htB hlocks hK hN hP hD hS hA hl
  replace hl : lv_has ls 1 [(0, .ref (ah 99))] := hl
  refine lv_aload_n hx hb dX5_coals_0 rfl (lv_at hl 0 rfl) ?_
  refine zc_vf (ws' := fun u => (bX5 ah cy u)) (va_runV (As := []) (rest := []) ⟨hx, hb, hml, hown, htB⟩ (c_X5_goesAll l D cy ah H.size S h) (cwV 0 htB (zgV zm_400 zm_402 zm_403 zm_263 zm_401) rfl rfl rfl hd_X5_goesAll ⟨Nat.le_of_ble_eq_true rfl, Nat.le_of_ble_eq_true rfl⟩) ⟨zM_blind, va_recv hK hP (ci := 5) (q0 := 0) rfl rfl, zM_pre hP hK hN hD⟩ rfl rfl hl.1 rfl (lv_room (Nat.le_of_ble_eq_true rfl)) dX5_coals_1 ⟨Nat.zero_le _, Nat.zero_le _⟩) hS hA hP hD (fun u => rfl) (fun u => rfl) (fun u H locs h hP hD hS => ?_)
  obtain ⟨S_1, eu⟩ : ∃ z, z = u := ⟨_, rfl⟩
  subst eu
  replace hP : va_P D zCl (bX5 ah cy S_1) H := hP
  replace hD : va_D A (bX5 ah cy S_1) := hD
  refine lv_aload_n hx hb dX5_coals_4 rfl (lv_at hl 0 rfl) ?_
  refine zc_r (va_runV (As := []) (rest := []) ⟨hx, hb, hml, hown, htB⟩ (c_X5_openSeconds l D cy ah S_1 h) (cwV 0 htB (zgV zm_412 zm_414 zm_415 zm_263 zm_413) rfl rfl rfl hd_X5_openSeconds ⟨Nat.le_of_ble_eq_true rfl, Nat.le_of_ble_eq_true rfl⟩) ⟨zR_blind, va_recv hK hP (ci := 5) (q0 := 0) rfl rfl, zR_pre hP hK hN⟩ rfl rfl hl.1 rfl (lv_room (Nat.le_of_ble_eq_true rfl)) dX5_coals_5 ⟨Nat.zero_le _, Nat.zero_le _⟩) (fun r5 h => ?_)
  refine lv_aload_n hx hb dX5_coals_8 rfl (lv_at hl 0 rfl) ?_
  refine va_get (D := D) (ci := 5) (v := .ref (ah 8)) (C := RX5) (T := TX5) (N := 41) hx hb htB ziX5 hown hK hP 0 rfl rfl 8 (by decide) (htB _ zm_307) (fun _ h9 => h9) rfl dX5_coals_9 ?_
  refine lv_iconst (v := (2 : Int32)) hx hb dX5_coals_12 (by decide) ?_
  refine va_iald (D := D) hx hb hK hP 9 0 rfl rfl (And.left h) dX5_coals_13 ?_
  replace h := And.right h
  refine lv_imul hx hb dX5_coals_14 ?_
  exact W.iret (v := (r5 * (S_1 8 (2 : Int32).toNatClampNeg))) hx hb hr (fun t ht hW => ⟨⟨_, S_1, rfl, h, zP_h ht hP⟩, hS.F ht⟩) hS.2.2 dX5_coals_15
set_option maxHeartbeats 4000000 in
set_option maxRecDepth 100000 in
theorem c_X5_lossBy (l : Launch) (D : va_G) (cy : ClassId) (ah : Nat → Nat) (sz : Nat) (i1 : Int32) (i2 : Int32) (S : zT) {Q : Int32 → zT → Prop} (h : wp_X5_lossBy i1 i2 S Q) : Met l yX5_lossBy w_X5_lossBy rm_X5_lossBy (va_Pc [.ref (ah 99), .int i1, .int i2] (zM D cy (bX5 ah cy S) sz)) (va_Qi (S := zT) (fun (r : Int32) (u : zT) => Q r u) (fun u t => va_P D zCl ((fun (u : zT) => (bX5 ah cy u)) u) t.heap) (va_A (bX5 ah cy S) sz)) 0 0 (va_A (bX5 ah cy S) sz) := by
  refine zOf_i (by decide) (Nat.le_of_ble_eq_true rfl) ?_
  intro p e s m below meth c ls A H locs hx hb hr hml hown htB hlocks hK hN hP hD hS hA hl
  replace hl : lv_has ls 5 [(0, .ref (ah 99)), (1, .int i1), (2, .int i2)] := hl
  refine lv_aload_n hx hb dX5_lossBy_0 rfl (lv_at hl 0 rfl) ?_
  refine va_get (D := D) (ci := 5) (v := .ref (ah 8)) (C := RX5) (T := TX5) (N := 41) hx hb htB ziX5 hown hK hP 0 rfl rfl 8 (by decide) (htB _ zm_307) (fun _ h9 => h9) rfl dX5_lossBy_1 ?_
  refine lv_iconst (v := (4 : Int32)) hx hb dX5_lossBy_4 (by decide) ?_
  refine va_iald (D := D) hx hb hK hP 9 0 rfl rfl (And.left h) dX5_lossBy_5 ?_
  replace h := And.right h
  refine lv_topi (fun y6 ey6 => ?_)
  replace h := h y6 ey6
  refine lv_istore_n (lv' := [(3, .int y6), (0, .ref (ah 99)), (1, .int i1), (2, .int i2)]) hx hb dX5_lossBy_6 rfl hl (by decide) rfl (fun ls hl => ?_)
  refine lv_aload_n hx hb dX5_lossBy_7 rfl (lv_at hl 1 rfl) ?_
  refine va_get (D := D) (ci := 5) (v := .ref (ah 8)) (C := RX5) (T := TX5) (N := 41) hx hb htB ziX5 hown hK hP 0 rfl rfl 8 (by decide) (htB _ zm_307) (fun _ h9 => h9) rfl dX5_lossBy_8 ?_
  refine lv_iconst (v := (3 : Int32)) hx hb dX5_lossBy_11 (by decide) ?_
  refine va_iald (D := D) hx hb hK hP 9 0 rfl rfl (And.left h) dX5_lossBy_12 ?_
  replace h := And.right h
  refine lv_topi (fun y13 ey13 => ?_)
  replace h := h y13 ey13
  refine lv_istore (lv' := [(4, .int y13), (3, .int y6), (0, .ref (ah 99)), (1, .int i1), (2, .int i2)]) hx hb dX5_lossBy_13 hl (by decide) rfl (fun ls hl => ?_)
  refine lv_aload_n hx hb dX5_lossBy_15 rfl (lv_at hl 2 rfl) ?_
  refine va_get (D := D) (ci := 5) (v := .ref (ah 8)) (C := RX5) (T := TX5) (N := 41) hx hb htB ziX5 hown hK hP 0 rfl rfl 8 (by decide) (htB _ zm_307) (fun _ h9 => h9) rfl dX5_lossBy_16 ?_
  refine lv_iconst (v := (4 : Int32)) hx hb dX5_lossBy_19 (by decide) ?_
  refine lv_iload_n hx hb dX5_lossBy_20 rfl (lv_at hl 3 rfl) ?_
  refine va_iast (D := D) hx hb hK hP hD hS 9 0 rfl rfl (And.left h) dX5_lossBy_21 (fun H locs hP hD hS => ?_)
  replace h := And.right h
  obtain ⟨S_21, eS_21⟩ : ∃ z : zT, z = (va_up S 8 (upd (S 8) (4 : Int32).toNatClampNeg i1)) := ⟨_, rfl⟩
  replace h := h S_21 eS_21
  replace hP : va_P D zCl (bX5 ah cy S_21) H := by rw [eS_21]; exact hP
  replace hD : va_D A (bX5 ah cy S_21) := by rw [eS_21]; exact hD
  refine lv_aload_n hx hb dX5_lossBy_22 rfl (lv_at hl 2 rfl) ?_
  refine va_get (D := D) (ci := 5) (v := .ref (ah 8)) (C := RX5) (T := TX5) (N := 41) hx hb htB ziX5 hown hK hP 0 rfl rfl 8 (by decide) (htB _ zm_307) (fun _ h9 => h9) rfl dX5_lossBy_23 ?_
  refine lv_iconst (v := (3 : Int32)) hx hb dX5_lossBy_26 (by decide) ?_
  refine lv_iload_n hx hb dX5_lossBy_27 rfl (lv_at hl 4 rfl) ?_
  refine va_iast (D := D) hx hb hK hP hD hS 9 0 rfl rfl (And.left h) dX5_lossBy_28 (fun H locs hP hD hS => ?_)
  replace h := And.right h
  obtain ⟨S_28, eS_28⟩ : ∃ z : zT, z = (va_up S_21 8 (upd (S_21 8) (3 : Int32).toNatClampNeg i2)) := ⟨_, rfl⟩
  replace h := h S_28 eS_28
  replace hP : va_P D zCl (bX5 ah cy S_28) H := by rw [eS_28]; exact hP
  replace hD : va_D A (bX5 ah cy S_28) := by rw [eS_28]; exact hD
  refine lv_aload_n hx hb dX5_lossBy_29 rfl (lv_at hl 2 rfl) ?_
  refine zc_vf (ws' := fun u => (bX5 ah cy u)) (va_runV (As := []) (rest := []) ⟨hx, hb, hml, hown, htB⟩ (c_X5_goesAll l D cy ah H.size S_28 h) (cwV 0 htB (zgV zm_400 zm_402 zm_403 zm_263 zm_401) rfl rfl rfl hd_X5_goesAll ⟨Nat.le_of_ble_eq_true rfl, Nat.le_of_ble_eq_true rfl⟩) ⟨zM_blind, va_recv hK hP (ci := 5) (q0 := 0) rfl rfl, zM_pre hP hK hN hD⟩ rfl rfl hl.1 rfl (lv_room (Nat.le_of_ble_eq_true rfl)) dX5_lossBy_30 ⟨Nat.zero_le _, Nat.zero_le _⟩) hS hA hP hD (fun u => rfl) (fun u => rfl) (fun u H locs h hP hD hS => ?_)
  obtain ⟨S_30, eu⟩ : ∃ z, z = u := ⟨_, rfl⟩
  subst eu
  replace hP : va_P D zCl (bX5 ah cy S_30) H := hP
  replace hD : va_D A (bX5 ah cy S_30) := hD
  refine lv_aload_n hx hb dX5_lossBy_33 rfl (lv_at hl 2 rfl) ?_
  refine va_get (D := D) (ci := 5) (v := .ref (ah 8)) (C := RX5) (T := TX5) (N := 41) hx hb htB ziX5 hown hK hP 0 rfl rfl 8 (by decide) (htB _ zm_307) (fun _ h9 => h9) rfl dX5_lossBy_34 ?_
  refine lv_iconst (v := (4 : Int32)) hx hb dX5_lossBy_37 (by decide) ?_
  refine lv_iload_n hx hb dX5_lossBy_38 rfl (lv_at hl 1 rfl) ?_
  refine va_iast (D := D) hx hb hK hP hD hS 9 0 rfl rfl (And.left h) dX5_lossBy_39 (fun H locs hP hD hS => ?_)
  replace h := And.right h
  obtain ⟨S_39, eS_39⟩ : ∃ z : zT, z = (va_up S_30 8 (upd (S_30 8) (4 : Int32).toNatClampNeg y6)) := ⟨_, rfl⟩
  replace h := h S_39 eS_39
  replace hP : va_P D zCl (bX5 ah cy S_39) H := by rw [eS_39]; exact hP
  replace hD : va_D A (bX5 ah cy S_39) := by rw [eS_39]; exact hD
  refine lv_aload_n hx hb dX5_lossBy_40 rfl (lv_at hl 2 rfl) ?_
  refine va_get (D := D) (ci := 5) (v := .ref (ah 8)) (C := RX5) (T := TX5) (N := 41) hx hb htB ziX5 hown hK hP 0 rfl rfl 8 (by decide) (htB _ zm_307) (fun _ h9 => h9) rfl dX5_lossBy_41 ?_
  refine lv_iconst (v := (3 : Int32)) hx hb dX5_lossBy_44 (by decide) ?_
  refine lv_iload hx hb dX5_lossBy_45 (lv_at hl 0 rfl) ?_
  refine va_iast (D := D) hx hb hK hP hD hS 9 0 rfl rfl (And.left h) dX5_lossBy_47 (fun H locs hP hD hS => ?_)
  replace h := And.right h
  obtain ⟨S_47, eS_47⟩ : ∃ z : zT, z = (va_up S_39 8 (upd (S_39 8) (3 : Int32).toNatClampNeg y13)) := ⟨_, rfl⟩
  replace h := h S_47 eS_47
  replace hP : va_P D zCl (bX5 ah cy S_47) H := by rw [eS_47]; exact hP
  replace hD : va_D A (bX5 ah cy S_47) := by rw [eS_47]; exact hD
  refine lv_aload_n hx hb dX5_lossBy_48 rfl (lv_at hl 2 rfl) ?_
  refine zc_r (va_runV (As := []) (rest := []) ⟨hx, hb, hml, hown, htB⟩ (c_X5_lossOfAll l D cy ah S_47 h) (cwV 0 htB (zgV zm_404 zm_406 zm_407 zm_263 zm_405) rfl rfl rfl hd_X5_lossOfAll ⟨Nat.le_of_ble_eq_true rfl, Nat.le_of_ble_eq_true rfl⟩) ⟨zR_blind, va_recv hK hP (ci := 5) (q0 := 0) rfl rfl, zR_pre hP hK hN⟩ rfl rfl hl.1 rfl (lv_room (Nat.le_of_ble_eq_true rfl)) dX5_lossBy_49 ⟨Nat.zero_le _, Nat.zero_le _⟩) (fun r49 h => ?_)
  exact W.iret (v := r49) hx hb hr (fun t ht hW => ⟨⟨_, S_47, rfl, h, zP_h ht hP⟩, hS.F ht⟩) hS.2.2 dX5_lossBy_52
set_option maxHeartbeats 4000000 in
set_option maxRecDepth 100000 in
theorem c_X5_byOther (l : Launch) (D : va_G) (cy : ClassId) (ah : Nat → Nat) (sz : Nat) (i1 : Int32) (i2 : Int32) (S : zT) {Q : Int32 → zT → Prop} (h : wp_X5_byOther i1 i2 S Q) : Met l yX5_byOther w_X5_byOther rm_X5_byOther (va_Pc [.ref (ah 99), .int i1, .int i2] (zM D cy (bX5 ah cy S) sz)) (va_Qi (S := zT) (fun (r : Int32) (u : zT) => Q r u) (fun u t => va_P D zCl ((fun (u : zT) => (bX5 ah cy u)) u) t.heap) (va_A (bX5 ah cy S) sz)) 0 0 (va_A (bX5 ah cy S) sz) := by
  refine zOf_i (by decide) (Nat.le_of_ble_eq_true rfl) ?_
  intro p e s m below meth c ls A H locs hx hb hr hml hown htB hlocks hK hN hP hD hS hA hl
  replace hl : lv_has ls 4 [(0, .ref (ah 99)), (1, .int i1), (2, .int i2)] := hl
  have L22 : ∀ (t0 : Int32) (S : zT), wpb_X5_byOther_22 i1 i2 Q t0 S → ∀ (H : Heap) (locs : List Loc), va_P D zCl (bX5 ah cy S) H → va_D A (bX5 ah cy S) → va_S A s.heap H locs → ∀ ls : Array Slot, lv_has ls 4 [(0, .ref (ah 99)), (1, .int i1), (2, .int i2)] → W p l e rm_X5_byOther s m ([.ref (ah 99), .int i1, .int i2] : List Value).toArray below meth c H locs 0 0 (MQ below (va_Qi (S := zT) (fun (r : Int32) (u : zT) => Q r u) (fun u t => va_P D zCl ((fun (u : zT) => (bX5 ah cy u)) u) t.heap) A) ([.ref (ah 99), .int i1, .int i2] : List Value).toArray s 0 0 A) (F0 m 22 ls [.int t0]) := by
    intro t0 S h H locs hP hD hS ls hl
    refine lv_istore_n (lv' := [(3, .int t0), (0, .ref (ah 99)), (1, .int i1), (2, .int i2)]) hx hb dX5_byOther_22 rfl hl (by decide) rfl (fun ls hl => ?_)
    refine lv_iload_n hx hb dX5_byOther_23 rfl (lv_at hl 0 rfl) ?_
    refine lv_if_eq (tgt := 35) hx hb dX5_byOther_24 (by decide) (fun c24 => ?_) (fun c24 => ?_)
    · replace h := And.left h c24
      refine lv_aload_n hx hb dX5_byOther_35 rfl (lv_at hl 1 rfl) ?_
      refine lv_iload_n hx hb dX5_byOther_36 rfl (lv_at hl 2 rfl) ?_
      refine lv_iload_n hx hb dX5_byOther_37 rfl (lv_at hl 3 rfl) ?_
      refine zc_if (ws' := fun u => (bX5 ah cy u)) (va_runV (As := [.int i1, .int i2]) (rest := []) ⟨hx, hb, hml, hown, htB⟩ (c_X5_lossBy l D cy ah H.size i1 i2 S h) (cwV 2 htB (zgV zm_416 zm_418 zm_419 zm_263 zm_417) rfl rfl rfl hd_X5_lossBy ⟨Nat.le_of_ble_eq_true rfl, Nat.le_of_ble_eq_true rfl⟩) ⟨zM_blind, va_recv hK hP (ci := 5) (q0 := 0) rfl rfl, zM_pre hP hK hN hD⟩ rfl rfl hl.1 rfl (lv_room (Nat.le_of_ble_eq_true rfl)) dX5_byOther_38 ⟨Nat.zero_le _, Nat.zero_le _⟩) hS hA hP hD (fun u => rfl) (fun u => rfl) (fun r38 u H locs h hP hD hS => ?_)
      obtain ⟨S_38, eu⟩ : ∃ z, z = u := ⟨_, rfl⟩
      subst eu
      replace hP : va_P D zCl (bX5 ah cy S_38) H := hP
      replace hD : va_D A (bX5 ah cy S_38) := hD
      exact W.iret (v := r38) hx hb hr (fun t ht hW => ⟨⟨_, S_38, rfl, h, zP_h ht hP⟩, hS.F ht⟩) hS.2.2 dX5_byOther_41
    · replace h := And.right h c24
      refine lv_aload_n hx hb dX5_byOther_27 rfl (lv_at hl 1 rfl) ?_
      refine lv_iload_n hx hb dX5_byOther_28 rfl (lv_at hl 0 rfl) ?_
      refine zc_if (ws' := fun u => (bX5 ah cy u)) (va_runV (As := [.int t0]) (rest := []) ⟨hx, hb, hml, hown, htB⟩ (c_X5_no l D cy ah H.size t0 S h) (cwV 1 htB (zgV zm_261 zm_264 zm_265 zm_263 zm_262) rfl rfl rfl hd_X5_no ⟨Nat.le_of_ble_eq_true rfl, Nat.le_of_ble_eq_true rfl⟩) ⟨zM_blind, va_recv hK hP (ci := 5) (q0 := 0) rfl rfl, zM_pre hP hK hN hD⟩ rfl rfl hl.1 rfl (lv_room (Nat.le_of_ble_eq_true rfl)) dX5_byOther_29 ⟨Nat.zero_le _, Nat.zero_le _⟩) hS hA hP hD (fun u => rfl) (fun u => rfl) (fun r29 u H locs h hP hD hS => ?_)
      obtain ⟨S_29, eu⟩ : ∃ z, z = u := ⟨_, rfl⟩
      subst eu
      replace hP : va_P D zCl (bX5 ah cy S_29) H := hP
      replace hD : va_D A (bX5 ah cy S_29) := hD
      refine lv_goto (tgt := 41) hx hb dX5_byOther_32 (by decide) ?_
      exact W.iret (v := r29) hx hb hr (fun t ht hW => ⟨⟨_, S_29, rfl, h, zP_h ht hP⟩, hS.F ht⟩) hS.2.2 dX5_byOther_41
  refine lv_iload_n hx hb dX5_byOther_0 rfl (lv_at hl 1 rfl) ?_
  refine lv_iconst (v := (0 : Int32)) hx hb dX5_byOther_1 (by decide) ?_
  refine lv_bipush (v := (6 : Int32)) hx hb dX5_byOther_2 (by decide) ?_
  have hPc : va_P D zCl ([] : va_W) H := hP.sub [] rfl
  refine zc_r (va_runS (As := [.int i1, .int (0 : Int32), .int (6 : Int32)]) (rest := []) ⟨hx, hb, hml, hown, htB⟩ (c_X5_isIn l D cy  i1 (0 : Int32) (6 : Int32) h) (cwS 3 htB (zgS zm_275 zm_277 zm_263 zm_276) rfl rfl rfl hd_X5_isIn ⟨Nat.le_of_ble_eq_true rfl, Nat.le_of_ble_eq_true rfl⟩) ⟨zR_blind, zR_pre hPc hK hN⟩ rfl rfl hl.1 rfl (lv_room (Nat.le_of_ble_eq_true rfl)) dX5_byOther_4 ⟨Nat.zero_le _, Nat.zero_le _⟩) (fun r4 h => ?_)
  refine lv_if_ne (tgt := 15) hx hb dX5_byOther_7 (by decide) (fun c7 => ?_) (fun c7 => ?_)
  · replace h := And.right h c7
    refine lv_iload_n hx hb dX5_byOther_15 rfl (lv_at hl 2 rfl) ?_
    refine lv_iconst (v := (0 : Int32)) hx hb dX5_byOther_16 (by decide) ?_
    refine lv_bipush (v := (40 : Int32)) hx hb dX5_byOther_17 (by decide) ?_
    have hPc : va_P D zCl ([] : va_W) H := hP.sub [] rfl
    refine zc_r (va_runS (As := [.int i2, .int (0 : Int32), .int (40 : Int32)]) (rest := []) ⟨hx, hb, hml, hown, htB⟩ (c_X5_bound l D cy  i2 (0 : Int32) (40 : Int32) h) (cwS 3 htB (zgS zm_266 zm_268 zm_263 zm_267) rfl rfl rfl hd_X5_bound ⟨Nat.le_of_ble_eq_true rfl, Nat.le_of_ble_eq_true rfl⟩) ⟨zR_blind, zR_pre hPc hK hN⟩ rfl rfl hl.1 rfl (lv_room (Nat.le_of_ble_eq_true rfl)) dX5_byOther_19 ⟨Nat.zero_le _, Nat.zero_le _⟩) (fun r19 h => ?_)
    exact L22 r19 S h H locs hP hD hS ls (lv_sub hl [0, 1, 2] rfl)
  · replace h := And.left h c7
    refine lv_bipush (v := (-2 : Int32)) hx hb dX5_byOther_10 (by decide) ?_
    refine lv_goto (tgt := 22) hx hb dX5_byOther_12 (by decide) ?_
    exact L22 (-2 : Int32) S h H locs hP hD hS ls (lv_sub hl [0, 1, 2] rfl)
set_option maxHeartbeats 4000000 in
set_option maxRecDepth 100000 in
theorem c_X5_bestFar (l : Launch) (D : va_G) (cy : ClassId) (ah : Nat → Nat) (sz : Nat) (S : zT) {Q : Int32 → zT → Prop} (h : wp_X5_bestFar S Q) : Met l yX5_bestFar w_X5_bestFar rm_X5_bestFar (va_Pc [.ref (ah 99)] (zM D cy (bX5 ah cy S) sz)) (va_Qi (S := zT) (fun (r : Int32) (u : zT) => Q r u) (fun u t => va_P D zCl ((fun (u : zT) => (bX5 ah cy u)) u) t.heap) (va_A (bX5 ah cy S) sz)) 0 0 (va_A (bX5 ah cy S) sz) := by
  refine zOf_i (by decide) (Nat.le_of_ble_eq_true rfl) ?_
  intro p e s m below meth c ls A H locs hx hb hr hml hown htB hlocks hK hN hP hD hS hA hl
  replace hl : lv_has ls 3 [(0, .ref (ah 99))] := hl
  have L4 : ∀ (k4 : Nat) (x1 : Int32) (x2 : Int32) (S : zT), wpl_X5_bestFar_4 Q k4 x1 x2 S → ∀ (H : Heap) (locs : List Loc), va_P D zCl (bX5 ah cy S) H → va_D A (bX5 ah cy S) → va_S A s.heap H locs → ∀ ls : Array Slot, lv_has ls 3 [(0, .ref (ah 99)), (1, .int x1), (2, .int x2)] → W p l e rm_X5_bestFar s m ([.ref (ah 99)] : List Value).toArray below meth c H locs 0 0 (MQ below (va_Qi (S := zT) (fun (r : Int32) (u : zT) => Q r u) (fun u t => va_P D zCl ((fun (u : zT) => (bX5 ah cy u)) u) t.heap) A) ([.ref (ah 99)] : List Value).toArray s 0 0 A) (F0 m 4 ls []) := by
    intro k4
    induction k4 with
    | zero => exact fun x1 x2 S h => False.elim h
    | succ k4 ih4 =>
      have L40 : ∀ (x2 : Int32) (t0 : Int32) (S : zT), wpb_X5_bestFar_40 Q (wpl_X5_bestFar_4 Q k4) x2 t0 S → ∀ (H : Heap) (locs : List Loc), va_P D zCl (bX5 ah cy S) H → va_D A (bX5 ah cy S) → va_S A s.heap H locs → ∀ ls : Array Slot, lv_has ls 3 [(0, .ref (ah 99)), (2, .int x2)] → W p l e rm_X5_bestFar s m ([.ref (ah 99)] : List Value).toArray below meth c H locs 0 0 (MQ below (va_Qi (S := zT) (fun (r : Int32) (u : zT) => Q r u) (fun u t => va_P D zCl ((fun (u : zT) => (bX5 ah cy u)) u) t.heap) A) ([.ref (ah 99)] : List Value).toArray s 0 0 A) (F0 m 40 ls [.int t0]) := by
        intro x2 t0 S h H locs hP hD hS ls hl
        refine lv_istore_n (lv' := [(1, .int t0), (0, .ref (ah 99)), (2, .int x2)]) hx hb dX5_bestFar_40 rfl hl (by decide) rfl (fun ls hl => ?_)
        obtain ⟨y41, ey41⟩ : ∃ z : Int32, z = (x2 + (1 : Int32)) := ⟨_, rfl⟩
        replace h := h y41 ey41
        refine lv_iinc (v := y41) (lv' := [(2, .int y41), (1, .int t0), (0, .ref (ah 99))]) hx hb dX5_bestFar_41 hl (k := 2) rfl (by rw [ey41]; rfl) (by decide) rfl (fun ls hl => ?_)
        refine lv_goto (tgt := 4) hx hb dX5_bestFar_44 (by decide) ?_
        exact ih4 t0 y41 S h H locs hP hD hS ls (lv_sub hl [2, 1, 0] rfl)
      intro x1 x2 S h H locs hP hD hS ls hl
      refine lv_iload_n hx hb dX5_bestFar_4 rfl (lv_at hl 2 rfl) ?_
      refine lv_bipush (v := (40 : Int32)) hx hb dX5_bestFar_5 (by decide) ?_
      refine lv_icmp_gt (tgt := 47) hx hb dX5_bestFar_7 (by decide) (fun c7 => ?_) (fun c7 => ?_)
      · replace h := And.left h c7
        refine lv_iload_n hx hb dX5_bestFar_47 rfl (lv_at hl 1 rfl) ?_
        exact W.iret (v := x1) hx hb hr (fun t ht hW => ⟨⟨_, S, rfl, h, zP_h ht hP⟩, hS.F ht⟩) hS.2.2 dX5_bestFar_48
      · replace h := And.right h c7
        refine lv_aload_n hx hb dX5_bestFar_10 rfl (lv_at hl 0 rfl) ?_
        refine lv_aload_n hx hb dX5_bestFar_11 rfl (lv_at hl 0 rfl) ?_
        refine va_get (D := D) (ci := 5) (v := .ref (ah 8)) (C := RX5) (T := TX5) (N := 41) hx hb htB ziX5 hown hK hP 0 rfl rfl 8 (by decide) (htB _ zm_307) (fun _ h9 => h9) rfl dX5_bestFar_12 ?_
        refine lv_iconst (v := (4 : Int32)) hx hb dX5_bestFar_15 (by decide) ?_
        refine va_iald (D := D) hx hb hK hP 9 0 rfl rfl (And.left h) dX5_bestFar_16 ?_
        replace h := And.right h
        refine lv_iload_n hx hb dX5_bestFar_17 rfl (lv_at hl 2 rfl) ?_
        refine zc_if (ws' := fun u => (bX5 ah cy u)) (va_runV (As := [.int (S 8 (4 : Int32).toNatClampNeg), .int x2]) (rest := []) ⟨hx, hb, hml, hown, htB⟩ (c_X5_lossBy l D cy ah H.size (S 8 (4 : Int32).toNatClampNeg) x2 S h) (cwV 2 htB (zgV zm_416 zm_418 zm_419 zm_263 zm_417) rfl rfl rfl hd_X5_lossBy ⟨Nat.le_of_ble_eq_true rfl, Nat.le_of_ble_eq_true rfl⟩) ⟨zM_blind, va_recv hK hP (ci := 5) (q0 := 0) rfl rfl, zM_pre hP hK hN hD⟩ rfl rfl hl.1 rfl (lv_room (Nat.le_of_ble_eq_true rfl)) dX5_bestFar_18 ⟨Nat.zero_le _, Nat.zero_le _⟩) hS hA hP hD (fun u => rfl) (fun u => rfl) (fun r18 u H locs h hP hD hS => ?_)
        obtain ⟨S_18, eu⟩ : ∃ z, z = u := ⟨_, rfl⟩
        subst eu
        replace hP : va_P D zCl (bX5 ah cy S_18) H := hP
        replace hD : va_D A (bX5 ah cy S_18) := hD
        refine lv_aload_n hx hb dX5_bestFar_21 rfl (lv_at hl 0 rfl) ?_
        refine lv_aload_n hx hb dX5_bestFar_22 rfl (lv_at hl 0 rfl) ?_
        refine va_get (D := D) (ci := 5) (v := .ref (ah 8)) (C := RX5) (T := TX5) (N := 41) hx hb htB ziX5 hown hK hP 0 rfl rfl 8 (by decide) (htB _ zm_307) (fun _ h9 => h9) rfl dX5_bestFar_23 ?_
        refine lv_iconst (v := (4 : Int32)) hx hb dX5_bestFar_26 (by decide) ?_
        refine va_iald (D := D) hx hb hK hP 9 0 rfl rfl (And.left h) dX5_bestFar_27 ?_
        replace h := And.right h
        refine lv_iload_n hx hb dX5_bestFar_28 rfl (lv_at hl 1 rfl) ?_
        refine zc_if (ws' := fun u => (bX5 ah cy u)) (va_runV (As := [.int (S_18 8 (4 : Int32).toNatClampNeg), .int x1]) (rest := [.int r18]) ⟨hx, hb, hml, hown, htB⟩ (c_X5_lossBy l D cy ah H.size (S_18 8 (4 : Int32).toNatClampNeg) x1 S_18 h) (cwV 2 htB (zgV zm_416 zm_418 zm_419 zm_263 zm_417) rfl rfl rfl hd_X5_lossBy ⟨Nat.le_of_ble_eq_true rfl, Nat.le_of_ble_eq_true rfl⟩) ⟨zM_blind, va_recv hK hP (ci := 5) (q0 := 0) rfl rfl, zM_pre hP hK hN hD⟩ rfl rfl hl.1 rfl (lv_room (Nat.le_of_ble_eq_true rfl)) dX5_bestFar_29 ⟨Nat.zero_le _, Nat.zero_le _⟩) hS hA hP hD (fun u => rfl) (fun u => rfl) (fun r29 u H locs h hP hD hS => ?_)
        obtain ⟨S_29, eu⟩ : ∃ z, z = u := ⟨_, rfl⟩
        subst eu
        replace hP : va_P D zCl (bX5 ah cy S_29) H := hP
        replace hD : va_D A (bX5 ah cy S_29) := hD
        refine lv_icmp_ge (tgt := 39) hx hb dX5_bestFar_32 (by decide) (fun c32 => ?_) (fun c32 => ?_)
        · replace h := And.left h c32
          refine lv_iload_n hx hb dX5_bestFar_39 rfl (lv_at hl 1 rfl) ?_
          exact L40 x2 x1 S_29 h H locs hP hD hS ls (lv_sub hl [0, 2] rfl)
        · replace h := And.right h c32
          refine lv_iload_n hx hb dX5_bestFar_35 rfl (lv_at hl 2 rfl) ?_
          refine lv_goto (tgt := 40) hx hb dX5_bestFar_36 (by decide) ?_
          exact L40 x2 x2 S_29 h H locs hP hD hS ls (lv_sub hl [0, 2] rfl)
  refine lv_iconst (v := (0 : Int32)) hx hb dX5_bestFar_0 (by decide) ?_
  refine lv_istore_n (lv' := [(1, .int (0 : Int32)), (0, .ref (ah 99))]) hx hb dX5_bestFar_1 rfl hl (by decide) rfl (fun ls hl => ?_)
  refine lv_iconst (v := (1 : Int32)) hx hb dX5_bestFar_2 (by decide) ?_
  refine lv_istore_n (lv' := [(2, .int (1 : Int32)), (1, .int (0 : Int32)), (0, .ref (ah 99))]) hx hb dX5_bestFar_3 rfl hl (by decide) rfl (fun ls hl => ?_)
  obtain ⟨nn, h⟩ := h
  exact L4 nn (0 : Int32) (1 : Int32) S h H locs hP hD hS ls (lv_sub hl [2, 1, 0] rfl)
set_option maxHeartbeats 4000000 in
set_option maxRecDepth 100000 in
theorem c_X5_bestCustom (l : Launch) (D : va_G) (cy : ClassId) (ah : Nat → Nat) (sz : Nat) (S : zT) {Q : Int32 → zT → Prop} (h : wp_X5_bestCustom S Q) : Met l yX5_bestCustom w_X5_bestCustom rm_X5_bestCustom (va_Pc [.ref (ah 99)] (zM D cy (bX5 ah cy S) sz)) (va_Qi (S := zT) (fun (r : Int32) (u : zT) => Q r u) (fun u t => va_P D zCl ((fun (u : zT) => (bX5 ah cy u)) u) t.heap) (va_A (bX5 ah cy S) sz)) 0 0 (va_A (bX5 ah cy S) sz) := by
  refine zOf_i (by decide) (Nat.le_of_ble_eq_true rfl) ?_
  intro p e s m below meth c ls A H locs hx hb hr hml hown htB hlocks hK hN hP hD hS hA hl
  replace hl : lv_has ls 3 [(0, .ref (ah 99))] := hl
  have L4 : ∀ (k4 : Nat) (x1 : Int32) (x2 : Int32) (S : zT), wpl_X5_bestCustom_4 Q k4 x1 x2 S → ∀ (H : Heap) (locs : List Loc), va_P D zCl (bX5 ah cy S) H → va_D A (bX5 ah cy S) → va_S A s.heap H locs → ∀ ls : Array Slot, lv_has ls 3 [(0, .ref (ah 99)), (1, .int x1), (2, .int x2)] → W p l e rm_X5_bestCustom s m ([.ref (ah 99)] : List Value).toArray below meth c H locs 0 0 (MQ below (va_Qi (S := zT) (fun (r : Int32) (u : zT) => Q r u) (fun u t => va_P D zCl ((fun (u : zT) => (bX5 ah cy u)) u) t.heap) A) ([.ref (ah 99)] : List Value).toArray s 0 0 A) (F0 m 4 ls []) := by
    intro k4
    induction k4 with
    | zero => exact fun x1 x2 S h => False.elim h
    | succ k4 ih4 =>
      have L40 : ∀ (x2 : Int32) (t0 : Int32) (S : zT), wpb_X5_bestCustom_40 Q (wpl_X5_bestCustom_4 Q k4) x2 t0 S → ∀ (H : Heap) (locs : List Loc), va_P D zCl (bX5 ah cy S) H → va_D A (bX5 ah cy S) → va_S A s.heap H locs → ∀ ls : Array Slot, lv_has ls 3 [(0, .ref (ah 99)), (2, .int x2)] → W p l e rm_X5_bestCustom s m ([.ref (ah 99)] : List Value).toArray below meth c H locs 0 0 (MQ below (va_Qi (S := zT) (fun (r : Int32) (u : zT) => Q r u) (fun u t => va_P D zCl ((fun (u : zT) => (bX5 ah cy u)) u) t.heap) A) ([.ref (ah 99)] : List Value).toArray s 0 0 A) (F0 m 40 ls [.int t0]) := by
        intro x2 t0 S h H locs hP hD hS ls hl
        refine lv_istore_n (lv' := [(1, .int t0), (0, .ref (ah 99)), (2, .int x2)]) hx hb dX5_bestCustom_40 rfl hl (by decide) rfl (fun ls hl => ?_)
        obtain ⟨y41, ey41⟩ : ∃ z : Int32, z = (x2 + (1 : Int32)) := ⟨_, rfl⟩
        replace h := h y41 ey41
        refine lv_iinc (v := y41) (lv' := [(2, .int y41), (1, .int t0), (0, .ref (ah 99))]) hx hb dX5_bestCustom_41 hl (k := 2) rfl (by rw [ey41]; rfl) (by decide) rfl (fun ls hl => ?_)
        refine lv_goto (tgt := 4) hx hb dX5_bestCustom_44 (by decide) ?_
        exact ih4 t0 y41 S h H locs hP hD hS ls (lv_sub hl [2, 1, 0] rfl)
      intro x1 x2 S h H locs hP hD hS ls hl
      refine lv_iload_n hx hb dX5_bestCustom_4 rfl (lv_at hl 2 rfl) ?_
      refine lv_bipush (v := (7 : Int32)) hx hb dX5_bestCustom_5 (by decide) ?_
      refine lv_icmp_ge (tgt := 47) hx hb dX5_bestCustom_7 (by decide) (fun c7 => ?_) (fun c7 => ?_)
      · replace h := And.left h c7
        refine lv_iload_n hx hb dX5_bestCustom_47 rfl (lv_at hl 1 rfl) ?_
        exact W.iret (v := x1) hx hb hr (fun t ht hW => ⟨⟨_, S, rfl, h, zP_h ht hP⟩, hS.F ht⟩) hS.2.2 dX5_bestCustom_48
      · replace h := And.right h c7
        refine lv_aload_n hx hb dX5_bestCustom_10 rfl (lv_at hl 0 rfl) ?_
        refine lv_iload_n hx hb dX5_bestCustom_11 rfl (lv_at hl 2 rfl) ?_
        refine lv_aload_n hx hb dX5_bestCustom_12 rfl (lv_at hl 0 rfl) ?_
        refine va_get (D := D) (ci := 5) (v := .ref (ah 8)) (C := RX5) (T := TX5) (N := 41) hx hb htB ziX5 hown hK hP 0 rfl rfl 8 (by decide) (htB _ zm_307) (fun _ h9 => h9) rfl dX5_bestCustom_13 ?_
        refine lv_iconst (v := (3 : Int32)) hx hb dX5_bestCustom_16 (by decide) ?_
        refine va_iald (D := D) hx hb hK hP 9 0 rfl rfl (And.left h) dX5_bestCustom_17 ?_
        replace h := And.right h
        refine zc_if (ws' := fun u => (bX5 ah cy u)) (va_runV (As := [.int x2, .int (S 8 (3 : Int32).toNatClampNeg)]) (rest := []) ⟨hx, hb, hml, hown, htB⟩ (c_X5_lossBy l D cy ah H.size x2 (S 8 (3 : Int32).toNatClampNeg) S h) (cwV 2 htB (zgV zm_416 zm_418 zm_419 zm_263 zm_417) rfl rfl rfl hd_X5_lossBy ⟨Nat.le_of_ble_eq_true rfl, Nat.le_of_ble_eq_true rfl⟩) ⟨zM_blind, va_recv hK hP (ci := 5) (q0 := 0) rfl rfl, zM_pre hP hK hN hD⟩ rfl rfl hl.1 rfl (lv_room (Nat.le_of_ble_eq_true rfl)) dX5_bestCustom_18 ⟨Nat.zero_le _, Nat.zero_le _⟩) hS hA hP hD (fun u => rfl) (fun u => rfl) (fun r18 u H locs h hP hD hS => ?_)
        obtain ⟨S_18, eu⟩ : ∃ z, z = u := ⟨_, rfl⟩
        subst eu
        replace hP : va_P D zCl (bX5 ah cy S_18) H := hP
        replace hD : va_D A (bX5 ah cy S_18) := hD
        refine lv_aload_n hx hb dX5_bestCustom_21 rfl (lv_at hl 0 rfl) ?_
        refine lv_iload_n hx hb dX5_bestCustom_22 rfl (lv_at hl 1 rfl) ?_
        refine lv_aload_n hx hb dX5_bestCustom_23 rfl (lv_at hl 0 rfl) ?_
        refine va_get (D := D) (ci := 5) (v := .ref (ah 8)) (C := RX5) (T := TX5) (N := 41) hx hb htB ziX5 hown hK hP 0 rfl rfl 8 (by decide) (htB _ zm_307) (fun _ h9 => h9) rfl dX5_bestCustom_24 ?_
        refine lv_iconst (v := (3 : Int32)) hx hb dX5_bestCustom_27 (by decide) ?_
        refine va_iald (D := D) hx hb hK hP 9 0 rfl rfl (And.left h) dX5_bestCustom_28 ?_
        replace h := And.right h
        refine zc_if (ws' := fun u => (bX5 ah cy u)) (va_runV (As := [.int x1, .int (S_18 8 (3 : Int32).toNatClampNeg)]) (rest := [.int r18]) ⟨hx, hb, hml, hown, htB⟩ (c_X5_lossBy l D cy ah H.size x1 (S_18 8 (3 : Int32).toNatClampNeg) S_18 h) (cwV 2 htB (zgV zm_416 zm_418 zm_419 zm_263 zm_417) rfl rfl rfl hd_X5_lossBy ⟨Nat.le_of_ble_eq_true rfl, Nat.le_of_ble_eq_true rfl⟩) ⟨zM_blind, va_recv hK hP (ci := 5) (q0 := 0) rfl rfl, zM_pre hP hK hN hD⟩ rfl rfl hl.1 rfl (lv_room (Nat.le_of_ble_eq_true rfl)) dX5_bestCustom_29 ⟨Nat.zero_le _, Nat.zero_le _⟩) hS hA hP hD (fun u => rfl) (fun u => rfl) (fun r29 u H locs h hP hD hS => ?_)
        obtain ⟨S_29, eu⟩ : ∃ z, z = u := ⟨_, rfl⟩
        subst eu
        replace hP : va_P D zCl (bX5 ah cy S_29) H := hP
        replace hD : va_D A (bX5 ah cy S_29) := hD
        refine lv_icmp_ge (tgt := 39) hx hb dX5_bestCustom_32 (by decide) (fun c32 => ?_) (fun c32 => ?_)
        · replace h := And.left h c32
          refine lv_iload_n hx hb dX5_bestCustom_39 rfl (lv_at hl 1 rfl) ?_
          exact L40 x2 x1 S_29 h H locs hP hD hS ls (lv_sub hl [0, 2] rfl)
        · replace h := And.right h c32
          refine lv_iload_n hx hb dX5_bestCustom_35 rfl (lv_at hl 2 rfl) ?_
          refine lv_goto (tgt := 40) hx hb dX5_bestCustom_36 (by decide) ?_
          exact L40 x2 x2 S_29 h H locs hP hD hS ls (lv_sub hl [0, 2] rfl)
  refine lv_iconst (v := (0 : Int32)) hx hb dX5_bestCustom_0 (by decide) ?_
  refine lv_istore_n (lv' := [(1, .int (0 : Int32)), (0, .ref (ah 99))]) hx hb dX5_bestCustom_1 rfl hl (by decide) rfl (fun ls hl => ?_)
  refine lv_iconst (v := (1 : Int32)) hx hb dX5_bestCustom_2 (by decide) ?_
  refine lv_istore_n (lv' := [(2, .int (1 : Int32)), (1, .int (0 : Int32)), (0, .ref (ah 99))]) hx hb dX5_bestCustom_3 rfl hl (by decide) rfl (fun ls hl => ?_)
  obtain ⟨nn, h⟩ := h
  exact L4 nn (0 : Int32) (1 : Int32) S h H locs hP hD hS ls (lv_sub hl [2, 1, 0] rfl)
set_option maxHeartbeats 4000000 in
set_option maxRecDepth 100000 in
theorem c_X5_bestShuts (l : Launch) (D : va_G) (cy : ClassId) (ah : Nat → Nat) (sz : Nat) (S : zT) {Q : Int32 → zT → Prop} (h : wp_X5_bestShuts S Q) : Met l yX5_bestShuts w_X5_bestShuts rm_X5_bestShuts (va_Pc [.ref (ah 99)] (zM D cy (bX5 ah cy S) sz)) (va_Qi (S := zT) (fun (r : Int32) (u : zT) => Q r u) (fun u t => va_P D zCl ((fun (u : zT) => (bX5 ah cy u)) u) t.heap) (va_A (bX5 ah cy S) sz)) 0 0 (va_A (bX5 ah cy S) sz) := by
  refine zOf_i (by decide) (Nat.le_of_ble_eq_true rfl) ?_
  intro p e s m below meth c ls A H locs hx hb hr hml hown htB hlocks hK hN hP hD hS hA hl
  replace hl : lv_has ls 6 [(0, .ref (ah 99))] := hl
  have L76 : ∀ (x1 : Int32) (x2 : Int32) (S : zT), wpb_X5_bestShuts_76 Q x1 x2 S → ∀ (H : Heap) (locs : List Loc), va_P D zCl (bX5 ah cy S) H → va_D A (bX5 ah cy S) → va_S A s.heap H locs → ∀ ls : Array Slot, lv_has ls 6 [(0, .ref (ah 99)), (1, .int x1), (2, .int x2)] → W p l e rm_X5_bestShuts s m ([.ref (ah 99)] : List Value).toArray below meth c H locs 0 0 (MQ below (va_Qi (S := zT) (fun (r : Int32) (u : zT) => Q r u) (fun u t => va_P D zCl ((fun (u : zT) => (bX5 ah cy u)) u) t.heap) A) ([.ref (ah 99)] : List Value).toArray s 0 0 A) (F0 m 76 ls []) := by
    intro x1 x2 S h H locs hP hD hS ls hl
    refine lv_aload_n hx hb dX5_bestShuts_76 rfl (lv_at hl 0 rfl) ?_
    refine va_get (D := D) (ci := 5) (v := .ref (ah 8)) (C := RX5) (T := TX5) (N := 41) hx hb htB ziX5 hown hK hP 0 rfl rfl 8 (by decide) (htB _ zm_307) (fun _ h9 => h9) rfl dX5_bestShuts_77 ?_
    refine lv_iconst (v := (0 : Int32)) hx hb dX5_bestShuts_80 (by decide) ?_
    refine lv_iload_n hx hb dX5_bestShuts_81 rfl (lv_at hl 1 rfl) ?_
    refine va_iast (D := D) hx hb hK hP hD hS 9 0 rfl rfl (And.left h) dX5_bestShuts_82 (fun H locs hP hD hS => ?_)
    replace h := And.right h
    obtain ⟨S_82, eS_82⟩ : ∃ z : zT, z = (va_up S 8 (upd (S 8) (0 : Int32).toNatClampNeg x1)) := ⟨_, rfl⟩
    replace h := h S_82 eS_82
    replace hP : va_P D zCl (bX5 ah cy S_82) H := by rw [eS_82]; exact hP
    replace hD : va_D A (bX5 ah cy S_82) := by rw [eS_82]; exact hD
    refine lv_iload_n hx hb dX5_bestShuts_83 rfl (lv_at hl 2 rfl) ?_
    exact W.iret (v := x2) hx hb hr (fun t ht hW => ⟨⟨_, S_82, rfl, h, zP_h ht hP⟩, hS.F ht⟩) hS.2.2 dX5_bestShuts_84
  have L14 : ∀ (k14 : Nat) (x1 : Int32) (x2 : Int32) (x3 : Int32) (x4 : Int32) (S : zT), wpl_X5_bestShuts_14 Q k14 x1 x2 x3 x4 S → ∀ (H : Heap) (locs : List Loc), va_P D zCl (bX5 ah cy S) H → va_D A (bX5 ah cy S) → va_S A s.heap H locs → ∀ ls : Array Slot, lv_has ls 6 [(0, .ref (ah 99)), (1, .int x1), (2, .int x2), (3, .int x3), (4, .int x4)] → W p l e rm_X5_bestShuts s m ([.ref (ah 99)] : List Value).toArray below meth c H locs 0 0 (MQ below (va_Qi (S := zT) (fun (r : Int32) (u : zT) => Q r u) (fun u t => va_P D zCl ((fun (u : zT) => (bX5 ah cy u)) u) t.heap) A) ([.ref (ah 99)] : List Value).toArray s 0 0 A) (F0 m 14 ls []) := by
    intro k14
    induction k14 with
    | zero => exact fun x1 x2 x3 x4 S h => False.elim h
    | succ k14 ih14 =>
      have L70 : ∀ (x1 : Int32) (x2 : Int32) (x3 : Int32) (x4 : Int32) (S : zT), wpb_X5_bestShuts_70 Q (wpl_X5_bestShuts_14 Q k14) x1 x2 x3 x4 S → ∀ (H : Heap) (locs : List Loc), va_P D zCl (bX5 ah cy S) H → va_D A (bX5 ah cy S) → va_S A s.heap H locs → ∀ ls : Array Slot, lv_has ls 6 [(0, .ref (ah 99)), (1, .int x1), (2, .int x2), (3, .int x3), (4, .int x4)] → W p l e rm_X5_bestShuts s m ([.ref (ah 99)] : List Value).toArray below meth c H locs 0 0 (MQ below (va_Qi (S := zT) (fun (r : Int32) (u : zT) => Q r u) (fun u t => va_P D zCl ((fun (u : zT) => (bX5 ah cy u)) u) t.heap) A) ([.ref (ah 99)] : List Value).toArray s 0 0 A) (F0 m 70 ls []) := by
        intro x1 x2 x3 x4 S h H locs hP hD hS ls hl
        obtain ⟨y70, ey70⟩ : ∃ z : Int32, z = (x4 + (1 : Int32)) := ⟨_, rfl⟩
        replace h := h y70 ey70
        refine lv_iinc (v := y70) (lv' := [(4, .int y70), (0, .ref (ah 99)), (1, .int x1), (2, .int x2), (3, .int x3)]) hx hb dX5_bestShuts_70 hl (k := 4) rfl (by rw [ey70]; rfl) (by decide) rfl (fun ls hl => ?_)
        refine lv_goto (tgt := 14) hx hb dX5_bestShuts_73 (by decide) ?_
        exact ih14 x1 x2 x3 y70 S h H locs hP hD hS ls (lv_sub hl [1, 2, 3, 4, 0] rfl)
      have L64 : ∀ (x1 : Int32) (x4 : Int32) (x5 : Int32) (S : zT), wpb_X5_bestShuts_64 Q (wpl_X5_bestShuts_14 Q k14) x1 x4 x5 S → ∀ (H : Heap) (locs : List Loc), va_P D zCl (bX5 ah cy S) H → va_D A (bX5 ah cy S) → va_S A s.heap H locs → ∀ ls : Array Slot, lv_has ls 6 [(0, .ref (ah 99)), (1, .int x1), (4, .int x4), (5, .int x5)] → W p l e rm_X5_bestShuts s m ([.ref (ah 99)] : List Value).toArray below meth c H locs 0 0 (MQ below (va_Qi (S := zT) (fun (r : Int32) (u : zT) => Q r u) (fun u t => va_P D zCl ((fun (u : zT) => (bX5 ah cy u)) u) t.heap) A) ([.ref (ah 99)] : List Value).toArray s 0 0 A) (F0 m 64 ls []) := by
        intro x1 x4 x5 S h H locs hP hD hS ls hl
        refine lv_iload hx hb dX5_bestShuts_64 (lv_at hl 2 rfl) ?_
        refine lv_istore_n (lv' := [(2, .int x4), (0, .ref (ah 99)), (1, .int x1), (4, .int x4), (5, .int x5)]) hx hb dX5_bestShuts_66 rfl hl (by decide) rfl (fun ls hl => ?_)
        refine lv_iload hx hb dX5_bestShuts_67 (lv_at hl 4 rfl) ?_
        refine lv_istore_n (lv' := [(3, .int x5), (2, .int x4), (0, .ref (ah 99)), (1, .int x1), (4, .int x4), (5, .int x5)]) hx hb dX5_bestShuts_69 rfl hl (by decide) rfl (fun ls hl => ?_)
        exact L70 x1 x4 x5 x4 S h H locs hP hD hS ls (lv_sub hl [2, 3, 1, 0, 4] rfl)
      intro x1 x2 x3 x4 S h H locs hP hD hS ls hl
      refine lv_iload hx hb dX5_bestShuts_14 (lv_at hl 4 rfl) ?_
      refine lv_bipush (v := (10 : Int32)) hx hb dX5_bestShuts_16 (by decide) ?_
      refine lv_icmp_ge (tgt := 76) hx hb dX5_bestShuts_18 (by decide) (fun c18 => ?_) (fun c18 => ?_)
      · replace h := And.left h c18
        exact L76 x1 x2 S h H locs hP hD hS ls (lv_sub hl [0, 1, 2] rfl)
      · replace h := And.right h c18
        refine lv_aload_n hx hb dX5_bestShuts_21 rfl (lv_at hl 0 rfl) ?_
        refine va_get (D := D) (ci := 5) (v := .ref (ah 8)) (C := RX5) (T := TX5) (N := 41) hx hb htB ziX5 hown hK hP 0 rfl rfl 8 (by decide) (htB _ zm_307) (fun _ h9 => h9) rfl dX5_bestShuts_22 ?_
        refine lv_iconst (v := (0 : Int32)) hx hb dX5_bestShuts_25 (by decide) ?_
        refine lv_iload hx hb dX5_bestShuts_26 (lv_at hl 4 rfl) ?_
        refine va_iast (D := D) hx hb hK hP hD hS 9 0 rfl rfl (And.left h) dX5_bestShuts_28 (fun H locs hP hD hS => ?_)
        replace h := And.right h
        obtain ⟨S_28, eS_28⟩ : ∃ z : zT, z = (va_up S 8 (upd (S 8) (0 : Int32).toNatClampNeg x4)) := ⟨_, rfl⟩
        replace h := h S_28 eS_28
        replace hP : va_P D zCl (bX5 ah cy S_28) H := by rw [eS_28]; exact hP
        replace hD : va_D A (bX5 ah cy S_28) := by rw [eS_28]; exact hD
        refine lv_aload_n hx hb dX5_bestShuts_29 rfl (lv_at hl 0 rfl) ?_
        refine zc_vf (ws' := fun u => (bX5 ah cy u)) (va_runV (As := []) (rest := []) ⟨hx, hb, hml, hown, htB⟩ (c_X5_goesAll l D cy ah H.size S_28 h) (cwV 0 htB (zgV zm_400 zm_402 zm_403 zm_263 zm_401) rfl rfl rfl hd_X5_goesAll ⟨Nat.le_of_ble_eq_true rfl, Nat.le_of_ble_eq_true rfl⟩) ⟨zM_blind, va_recv hK hP (ci := 5) (q0 := 0) rfl rfl, zM_pre hP hK hN hD⟩ rfl rfl hl.1 rfl (lv_room (Nat.le_of_ble_eq_true rfl)) dX5_bestShuts_30 ⟨Nat.zero_le _, Nat.zero_le _⟩) hS hA hP hD (fun u => rfl) (fun u => rfl) (fun u H locs h hP hD hS => ?_)
        obtain ⟨S_30, eu⟩ : ∃ z, z = u := ⟨_, rfl⟩
        subst eu
        replace hP : va_P D zCl (bX5 ah cy S_30) H := hP
        replace hD : va_D A (bX5 ah cy S_30) := hD
        refine lv_aload_n hx hb dX5_bestShuts_33 rfl (lv_at hl 0 rfl) ?_
        refine zc_r (va_runV (As := []) (rest := []) ⟨hx, hb, hml, hown, htB⟩ (c_X5_lossOfAll l D cy ah S_30 h) (cwV 0 htB (zgV zm_404 zm_406 zm_407 zm_263 zm_405) rfl rfl rfl hd_X5_lossOfAll ⟨Nat.le_of_ble_eq_true rfl, Nat.le_of_ble_eq_true rfl⟩) ⟨zR_blind, va_recv hK hP (ci := 5) (q0 := 0) rfl rfl, zR_pre hP hK hN⟩ rfl rfl hl.1 rfl (lv_room (Nat.le_of_ble_eq_true rfl)) dX5_bestShuts_34 ⟨Nat.zero_le _, Nat.zero_le _⟩) (fun r34 h => ?_)
        refine lv_aload_n hx hb dX5_bestShuts_37 rfl (lv_at hl 0 rfl) ?_
        refine zc_r (va_runV (As := []) (rest := [.int r34]) ⟨hx, hb, hml, hown, htB⟩ (c_X5_openSeconds l D cy ah S_30 h) (cwV 0 htB (zgV zm_412 zm_414 zm_415 zm_263 zm_413) rfl rfl rfl hd_X5_openSeconds ⟨Nat.le_of_ble_eq_true rfl, Nat.le_of_ble_eq_true rfl⟩) ⟨zR_blind, va_recv hK hP (ci := 5) (q0 := 0) rfl rfl, zR_pre hP hK hN⟩ rfl rfl hl.1 rfl (lv_room (Nat.le_of_ble_eq_true rfl)) dX5_bestShuts_38 ⟨Nat.zero_le _, Nat.zero_le _⟩) (fun r38 h => ?_)
        refine lv_aload_n hx hb dX5_bestShuts_41 rfl (lv_at hl 0 rfl) ?_
        refine va_get (D := D) (ci := 5) (v := .ref (ah 8)) (C := RX5) (T := TX5) (N := 41) hx hb htB ziX5 hown hK hP 0 rfl rfl 8 (by decide) (htB _ zm_307) (fun _ h9 => h9) rfl dX5_bestShuts_42 ?_
        refine lv_iconst (v := (2 : Int32)) hx hb dX5_bestShuts_45 (by decide) ?_
        refine va_iald (D := D) hx hb hK hP 9 0 rfl rfl (And.left h) dX5_bestShuts_46 ?_
        replace h := And.right h
        refine lv_imul hx hb dX5_bestShuts_47 ?_
        refine lv_iadd hx hb dX5_bestShuts_48 ?_
        refine lv_topi (fun y49 ey49 => ?_)
        replace h := h y49 ey49
        refine lv_istore (lv' := [(5, .int y49), (0, .ref (ah 99)), (1, .int x1), (2, .int x2), (3, .int x3), (4, .int x4)]) hx hb dX5_bestShuts_49 hl (by decide) rfl (fun ls hl => ?_)
        refine lv_iload_n hx hb dX5_bestShuts_51 rfl (lv_at hl 3 rfl) ?_
        refine lv_if_le (tgt := 64) hx hb dX5_bestShuts_52 (by decide) (fun c52 => ?_) (fun c52 => ?_)
        · replace h := And.left h c52
          exact L64 x1 x4 y49 S_30 h H locs hP hD hS ls (lv_sub hl [1, 2, 5, 0] rfl)
        · replace h := And.right h c52
          refine lv_iload hx hb dX5_bestShuts_55 (lv_at hl 0 rfl) ?_
          refine lv_iload_n hx hb dX5_bestShuts_57 rfl (lv_at hl 4 rfl) ?_
          refine lv_icmp_lt (tgt := 64) hx hb dX5_bestShuts_58 (by decide) (fun c58 => ?_) (fun c58 => ?_)
          · replace h := And.left h c58
            exact L64 x1 x4 y49 S_30 h H locs hP hD hS ls (lv_sub hl [1, 2, 5, 0] rfl)
          · replace h := And.right h c58
            refine lv_goto (tgt := 70) hx hb dX5_bestShuts_61 (by decide) ?_
            exact L70 x1 x2 x3 x4 S_30 h H locs hP hD hS ls (lv_sub hl [1, 2, 3, 4, 5] rfl)
  refine lv_aload_n hx hb dX5_bestShuts_0 rfl (lv_at hl 0 rfl) ?_
  refine va_get (D := D) (ci := 5) (v := .ref (ah 8)) (C := RX5) (T := TX5) (N := 41) hx hb htB ziX5 hown hK hP 0 rfl rfl 8 (by decide) (htB _ zm_307) (fun _ h9 => h9) rfl dX5_bestShuts_1 ?_
  refine lv_iconst (v := (0 : Int32)) hx hb dX5_bestShuts_4 (by decide) ?_
  refine va_iald (D := D) hx hb hK hP 9 0 rfl rfl (And.left h) dX5_bestShuts_5 ?_
  replace h := And.right h
  refine lv_topi (fun y6 ey6 => ?_)
  replace h := h y6 ey6
  refine lv_istore_n (lv' := [(1, .int y6), (0, .ref (ah 99))]) hx hb dX5_bestShuts_6 rfl hl (by decide) rfl (fun ls hl => ?_)
  refine lv_iconst (v := (0 : Int32)) hx hb dX5_bestShuts_7 (by decide) ?_
  refine lv_istore_n (lv' := [(2, .int (0 : Int32)), (1, .int y6), (0, .ref (ah 99))]) hx hb dX5_bestShuts_8 rfl hl (by decide) rfl (fun ls hl => ?_)
  refine lv_iconst (v := (0 : Int32)) hx hb dX5_bestShuts_9 (by decide) ?_
  refine lv_istore_n (lv' := [(3, .int (0 : Int32)), (2, .int (0 : Int32)), (1, .int y6), (0, .ref (ah 99))]) hx hb dX5_bestShuts_10 rfl hl (by decide) rfl (fun ls hl => ?_)
  refine lv_iconst (v := (1 : Int32)) hx hb dX5_bestShuts_11 (by decide) ?_
  refine lv_istore (lv' := [(4, .int (1 : Int32)), (3, .int (0 : Int32)), (2, .int (0 : Int32)), (1, .int y6), (0, .ref (ah 99))]) hx hb dX5_bestShuts_12 hl (by decide) rfl (fun ls hl => ?_)
  obtain ⟨nn, h⟩ := h
  exact L14 nn y6 (0 : Int32) (0 : Int32) (1 : Int32) S h H locs hP hD hS ls (lv_sub hl [4, 3, 2, 1, 0] rfl)
set_option maxHeartbeats 4000000 in
set_option maxRecDepth 100000 in
theorem c_X5_worse (l : Launch) (D : va_G) (cy : ClassId) (ah : Nat → Nat) (sz : Nat) (S : zT) {Q : Int32 → zT → Prop} (h : wp_X5_worse S Q) : Met l yX5_worse w_X5_worse rm_X5_worse (va_Pc [.ref (ah 99)] (zM D cy (bX5 ah cy S) sz)) (va_Qi (S := zT) (fun (r : Int32) (u : zT) => Q r u) (fun u t => va_P D zCl ((fun (u : zT) => (bX5 ah cy u)) u) t.heap) (va_A (bX5 ah cy S) sz)) 0 0 (va_A (bX5 ah cy S) sz) := by
  refine zOf_i (by decide) (Nat.le_of_ble_eq_true rfl) ?_
  intro p e s m below meth c ls A H locs hx hb hr hml hown htB hlocks hK hN hP hD hS hA hl
  replace hl : lv_has ls 3 [(0, .ref (ah 99))] := hl
  have L47 : ∀ (k47 : Nat) (x1 : Int32) (x2 : Int32) (S : zT), wpl_X5_worse_47 Q k47 x1 x2 S → ∀ (H : Heap) (locs : List Loc), va_P D zCl (bX5 ah cy S) H → va_D A (bX5 ah cy S) → va_S A s.heap H locs → ∀ ls : Array Slot, lv_has ls 3 [(0, .ref (ah 99)), (1, .int x1), (2, .int x2)] → W p l e rm_X5_worse s m ([.ref (ah 99)] : List Value).toArray below meth c H locs 0 0 (MQ below (va_Qi (S := zT) (fun (r : Int32) (u : zT) => Q r u) (fun u t => va_P D zCl ((fun (u : zT) => (bX5 ah cy u)) u) t.heap) A) ([.ref (ah 99)] : List Value).toArray s 0 0 A) (F0 m 47 ls []) := by
    intro k47
    induction k47 with
    | zero => exact fun x1 x2 S h => False.elim h
    | succ k47 ih47 =>
      have L77 : ∀ (x2 : Int32) (t0 : Int32) (t1 : Int32) (S : zT), wpb_X5_worse_77 Q (wpl_X5_worse_47 Q k47) x2 t0 t1 S → ∀ (H : Heap) (locs : List Loc), va_P D zCl (bX5 ah cy S) H → va_D A (bX5 ah cy S) → va_S A s.heap H locs → ∀ ls : Array Slot, lv_has ls 3 [(0, .ref (ah 99)), (2, .int x2)] → W p l e rm_X5_worse s m ([.ref (ah 99)] : List Value).toArray below meth c H locs 0 0 (MQ below (va_Qi (S := zT) (fun (r : Int32) (u : zT) => Q r u) (fun u t => va_P D zCl ((fun (u : zT) => (bX5 ah cy u)) u) t.heap) A) ([.ref (ah 99)] : List Value).toArray s 0 0 A) (F0 m 77 ls [.int t1, .int t0]) := by
        intro x2 t0 t1 S h H locs hP hD hS ls hl
        refine lv_ior hx hb dX5_worse_77 ?_
        refine lv_topi (fun y78 ey78 => ?_)
        replace h := h y78 ey78
        refine lv_istore_n (lv' := [(1, .int y78), (0, .ref (ah 99)), (2, .int x2)]) hx hb dX5_worse_78 rfl hl (by decide) rfl (fun ls hl => ?_)
        obtain ⟨y79, ey79⟩ : ∃ z : Int32, z = (x2 + (1 : Int32)) := ⟨_, rfl⟩
        replace h := h y79 ey79
        refine lv_iinc (v := y79) (lv' := [(2, .int y79), (1, .int y78), (0, .ref (ah 99))]) hx hb dX5_worse_79 hl (k := 2) rfl (by rw [ey79]; rfl) (by decide) rfl (fun ls hl => ?_)
        refine lv_goto (tgt := 47) hx hb dX5_worse_82 (by decide) ?_
        exact ih47 y78 y79 S h H locs hP hD hS ls (lv_sub hl [2, 1, 0] rfl)
      intro x1 x2 S h H locs hP hD hS ls hl
      refine lv_iload_n hx hb dX5_worse_47 rfl (lv_at hl 2 rfl) ?_
      refine lv_aload_n hx hb dX5_worse_48 rfl (lv_at hl 0 rfl) ?_
      refine va_get (D := D) (ci := 5) (v := .int (S 13 0)) (C := RX5) (T := TX5) (N := 41) hx hb htB ziX5 hown hK hP 0 rfl rfl 13 (by decide) (htB _ zm_258) (fun _ h9 => h9) rfl dX5_worse_49 ?_
      refine lv_icmp_ge (tgt := 85) hx hb dX5_worse_52 (by decide) (fun c52 => ?_) (fun c52 => ?_)
      · replace h := And.left h c52
        refine lv_iload_n hx hb dX5_worse_85 rfl (lv_at hl 1 rfl) ?_
        exact W.iret (v := x1) hx hb hr (fun t ht hW => ⟨⟨_, S, rfl, h, zP_h ht hP⟩, hS.F ht⟩) hS.2.2 dX5_worse_86
      · replace h := And.right h c52
        refine lv_iload_n hx hb dX5_worse_55 rfl (lv_at hl 1 rfl) ?_
        refine lv_aload_n hx hb dX5_worse_56 rfl (lv_at hl 0 rfl) ?_
        refine lv_iload_n hx hb dX5_worse_57 rfl (lv_at hl 2 rfl) ?_
        refine zc_r (va_runV (As := [.int x2]) (rest := [.int x1]) ⟨hx, hb, hml, hown, htB⟩ (c_X5_lossOf l D cy ah S x2 h) (cwV 1 htB (zgV zm_396 zm_398 zm_399 zm_263 zm_397) rfl rfl rfl hd_X5_lossOf ⟨Nat.le_of_ble_eq_true rfl, Nat.le_of_ble_eq_true rfl⟩) ⟨zR_blind, va_recv hK hP (ci := 5) (q0 := 0) rfl rfl, zR_pre hP hK hN⟩ rfl rfl hl.1 rfl (lv_room (Nat.le_of_ble_eq_true rfl)) dX5_worse_58 ⟨Nat.zero_le _, Nat.zero_le _⟩) (fun r58 h => ?_)
        refine lv_aload_n hx hb dX5_worse_61 rfl (lv_at hl 0 rfl) ?_
        refine va_get (D := D) (ci := 5) (v := .ref (ah 38)) (C := RX5) (T := TX5) (N := 41) hx hb htB ziX5 hown hK hP 0 rfl rfl 38 (by decide) (htB _ zm_420) (fun _ h9 => h9) rfl dX5_worse_62 ?_
        refine lv_iload_n hx hb dX5_worse_65 rfl (lv_at hl 2 rfl) ?_
        refine va_iald (D := D) hx hb hK hP 28 0 rfl rfl (And.left h) dX5_worse_66 ?_
        replace h := And.right h
        refine lv_icmp_le (tgt := 76) hx hb dX5_worse_67 (by decide) (fun c67 => ?_) (fun c67 => ?_)
        · replace h := And.left h c67
          refine lv_iconst (v := (0 : Int32)) hx hb dX5_worse_76 (by decide) ?_
          exact L77 x2 x1 (0 : Int32) S h H locs hP hD hS ls (lv_sub hl [0, 2] rfl)
        · replace h := And.right h c67
          refine lv_iconst (v := (1 : Int32)) hx hb dX5_worse_70 (by decide) ?_
          refine lv_iload_n hx hb dX5_worse_71 rfl (lv_at hl 2 rfl) ?_
          refine lv_ishl hx hb dX5_worse_72 ?_
          refine lv_goto (tgt := 77) hx hb dX5_worse_73 (by decide) ?_
          exact L77 x2 x1 ((1 : Int32) <<< (x2 &&& 31)) S h H locs hP hD hS ls (lv_sub hl [0, 2] rfl)
  have L39 : ∀ (S : zT), wpb_X5_worse_39 Q S → ∀ (H : Heap) (locs : List Loc), va_P D zCl (bX5 ah cy S) H → va_D A (bX5 ah cy S) → va_S A s.heap H locs → ∀ ls : Array Slot, lv_has ls 3 [(0, .ref (ah 99))] → W p l e rm_X5_worse s m ([.ref (ah 99)] : List Value).toArray below meth c H locs 0 0 (MQ below (va_Qi (S := zT) (fun (r : Int32) (u : zT) => Q r u) (fun u t => va_P D zCl ((fun (u : zT) => (bX5 ah cy u)) u) t.heap) A) ([.ref (ah 99)] : List Value).toArray s 0 0 A) (F0 m 39 ls []) := by
    intro S h H locs hP hD hS ls hl
    refine lv_aload_n hx hb dX5_worse_39 rfl (lv_at hl 0 rfl) ?_
    refine zc_vf (ws' := fun u => (bX5 ah cy u)) (va_runV (As := []) (rest := []) ⟨hx, hb, hml, hown, htB⟩ (c_X5_goesAll l D cy ah H.size S h) (cwV 0 htB (zgV zm_400 zm_402 zm_403 zm_263 zm_401) rfl rfl rfl hd_X5_goesAll ⟨Nat.le_of_ble_eq_true rfl, Nat.le_of_ble_eq_true rfl⟩) ⟨zM_blind, va_recv hK hP (ci := 5) (q0 := 0) rfl rfl, zM_pre hP hK hN hD⟩ rfl rfl hl.1 rfl (lv_room (Nat.le_of_ble_eq_true rfl)) dX5_worse_40 ⟨Nat.zero_le _, Nat.zero_le _⟩) hS hA hP hD (fun u => rfl) (fun u => rfl) (fun u H locs h hP hD hS => ?_)
    obtain ⟨S_40, eu⟩ : ∃ z, z = u := ⟨_, rfl⟩
    subst eu
    replace hP : va_P D zCl (bX5 ah cy S_40) H := hP
    replace hD : va_D A (bX5 ah cy S_40) := hD
    refine lv_iconst (v := (0 : Int32)) hx hb dX5_worse_43 (by decide) ?_
    refine lv_istore_n (lv' := [(1, .int (0 : Int32)), (0, .ref (ah 99))]) hx hb dX5_worse_44 rfl hl (by decide) rfl (fun ls hl => ?_)
    refine lv_iconst (v := (0 : Int32)) hx hb dX5_worse_45 (by decide) ?_
    refine lv_istore_n (lv' := [(2, .int (0 : Int32)), (1, .int (0 : Int32)), (0, .ref (ah 99))]) hx hb dX5_worse_46 rfl hl (by decide) rfl (fun ls hl => ?_)
    obtain ⟨nn, h⟩ := h
    exact L47 nn (0 : Int32) (0 : Int32) S_40 h H locs hP hD hS ls (lv_sub hl [2, 1, 0] rfl)
  have L14 : ∀ (k14 : Nat) (x1 : Int32) (S : zT), wpl_X5_worse_14 Q k14 x1 S → ∀ (H : Heap) (locs : List Loc), va_P D zCl (bX5 ah cy S) H → va_D A (bX5 ah cy S) → va_S A s.heap H locs → ∀ ls : Array Slot, lv_has ls 3 [(0, .ref (ah 99)), (1, .int x1)] → W p l e rm_X5_worse s m ([.ref (ah 99)] : List Value).toArray below meth c H locs 0 0 (MQ below (va_Qi (S := zT) (fun (r : Int32) (u : zT) => Q r u) (fun u t => va_P D zCl ((fun (u : zT) => (bX5 ah cy u)) u) t.heap) A) ([.ref (ah 99)] : List Value).toArray s 0 0 A) (F0 m 14 ls []) := by
    intro k14
    induction k14 with
    | zero => exact fun x1 S h => False.elim h
    | succ k14 ih14 =>
      intro x1 S h H locs hP hD hS ls hl
      refine lv_iload_n hx hb dX5_worse_14 rfl (lv_at hl 1 rfl) ?_
      refine lv_aload_n hx hb dX5_worse_15 rfl (lv_at hl 0 rfl) ?_
      refine va_get (D := D) (ci := 5) (v := .int (S 13 0)) (C := RX5) (T := TX5) (N := 41) hx hb htB ziX5 hown hK hP 0 rfl rfl 13 (by decide) (htB _ zm_258) (fun _ h9 => h9) rfl dX5_worse_16 ?_
      refine lv_icmp_ge (tgt := 39) hx hb dX5_worse_19 (by decide) (fun c19 => ?_) (fun c19 => ?_)
      · replace h := And.left h c19
        exact L39 S h H locs hP hD hS ls (lv_sub hl [0] rfl)
      · replace h := And.right h c19
        refine lv_aload_n hx hb dX5_worse_22 rfl (lv_at hl 0 rfl) ?_
        refine va_get (D := D) (ci := 5) (v := .ref (ah 38)) (C := RX5) (T := TX5) (N := 41) hx hb htB ziX5 hown hK hP 0 rfl rfl 38 (by decide) (htB _ zm_420) (fun _ h9 => h9) rfl dX5_worse_23 ?_
        refine lv_iload_n hx hb dX5_worse_26 rfl (lv_at hl 1 rfl) ?_
        refine lv_aload_n hx hb dX5_worse_27 rfl (lv_at hl 0 rfl) ?_
        refine lv_iload_n hx hb dX5_worse_28 rfl (lv_at hl 1 rfl) ?_
        refine zc_r (va_runV (As := [.int x1]) (rest := [.int x1, .ref (ah 38)]) ⟨hx, hb, hml, hown, htB⟩ (c_X5_lossOf l D cy ah S x1 h) (cwV 1 htB (zgV zm_396 zm_398 zm_399 zm_263 zm_397) rfl rfl rfl hd_X5_lossOf ⟨Nat.le_of_ble_eq_true rfl, Nat.le_of_ble_eq_true rfl⟩) ⟨zR_blind, va_recv hK hP (ci := 5) (q0 := 0) rfl rfl, zR_pre hP hK hN⟩ rfl rfl hl.1 rfl (lv_room (Nat.le_of_ble_eq_true rfl)) dX5_worse_29 ⟨Nat.zero_le _, Nat.zero_le _⟩) (fun r29 h => ?_)
        refine va_iast (D := D) hx hb hK hP hD hS 28 0 rfl rfl (And.left h) dX5_worse_32 (fun H locs hP hD hS => ?_)
        replace h := And.right h
        obtain ⟨S_32, eS_32⟩ : ∃ z : zT, z = (va_up S 38 (upd (S 38) x1.toNatClampNeg r29)) := ⟨_, rfl⟩
        replace h := h S_32 eS_32
        replace hP : va_P D zCl (bX5 ah cy S_32) H := by rw [eS_32]; exact hP
        replace hD : va_D A (bX5 ah cy S_32) := by rw [eS_32]; exact hD
        obtain ⟨y33, ey33⟩ : ∃ z : Int32, z = (x1 + (1 : Int32)) := ⟨_, rfl⟩
        replace h := h y33 ey33
        refine lv_iinc (v := y33) (lv' := [(1, .int y33), (0, .ref (ah 99))]) hx hb dX5_worse_33 hl (k := 1) rfl (by rw [ey33]; rfl) (by decide) rfl (fun ls hl => ?_)
        refine lv_goto (tgt := 14) hx hb dX5_worse_36 (by decide) ?_
        exact ih14 y33 S_32 h H locs hP hD hS ls (lv_sub hl [1, 0] rfl)
  refine lv_aload_n hx hb dX5_worse_0 rfl (lv_at hl 0 rfl) ?_
  refine lv_iconst (v := (0 : Int32)) hx hb dX5_worse_1 (by decide) ?_
  refine lv_aload_n hx hb dX5_worse_2 rfl (lv_at hl 0 rfl) ?_
  refine va_get (D := D) (ci := 5) (v := .ref (ah 8)) (C := RX5) (T := TX5) (N := 41) hx hb htB ziX5 hown hK hP 0 rfl rfl 8 (by decide) (htB _ zm_307) (fun _ h9 => h9) rfl dX5_worse_3 ?_
  refine lv_iconst (v := (3 : Int32)) hx hb dX5_worse_6 (by decide) ?_
  refine va_iald (D := D) hx hb hK hP 9 0 rfl rfl (And.left h) dX5_worse_7 ?_
  replace h := And.right h
  refine zc_if (ws' := fun u => (bX5 ah cy u)) (va_runV (As := [.int (0 : Int32), .int (S 8 (3 : Int32).toNatClampNeg)]) (rest := []) ⟨hx, hb, hml, hown, htB⟩ (c_X5_lossBy l D cy ah H.size (0 : Int32) (S 8 (3 : Int32).toNatClampNeg) S h) (cwV 2 htB (zgV zm_416 zm_418 zm_419 zm_263 zm_417) rfl rfl rfl hd_X5_lossBy ⟨Nat.le_of_ble_eq_true rfl, Nat.le_of_ble_eq_true rfl⟩) ⟨zM_blind, va_recv hK hP (ci := 5) (q0 := 0) rfl rfl, zM_pre hP hK hN hD⟩ rfl rfl hl.1 rfl (lv_room (Nat.le_of_ble_eq_true rfl)) dX5_worse_8 ⟨Nat.zero_le _, Nat.zero_le _⟩) hS hA hP hD (fun u => rfl) (fun u => rfl) (fun r8 u H locs h hP hD hS => ?_)
  obtain ⟨S_8, eu⟩ : ∃ z, z = u := ⟨_, rfl⟩
  subst eu
  replace hP : va_P D zCl (bX5 ah cy S_8) H := hP
  replace hD : va_D A (bX5 ah cy S_8) := hD
  refine lv_pop hx hb dX5_worse_11 rfl ?_
  refine lv_iconst (v := (0 : Int32)) hx hb dX5_worse_12 (by decide) ?_
  refine lv_istore_n (lv' := [(1, .int (0 : Int32)), (0, .ref (ah 99))]) hx hb dX5_worse_13 rfl hl (by decide) rfl (fun ls hl => ?_)
  obtain ⟨nn, h⟩ := h
  exact L14 nn (0 : Int32) S_8 h H locs hP hD hS ls (lv_sub hl [1, 0] rfl)
set_option maxHeartbeats 4000000 in
set_option maxRecDepth 100000 in
theorem c_X5_followed (l : Launch) (D : va_G) (cy : ClassId) (ah : Nat → Nat) (sz : Nat) (S : zT) {Q : Int32 → zT → Prop} (h : wp_X5_followed S Q) : Met l yX5_followed w_X5_followed rm_X5_followed (va_Pc [.ref (ah 99)] (zM D cy (bX5 ah cy S) sz)) (va_Qi (S := zT) (fun (r : Int32) (u : zT) => Q r u) (fun u t => va_P D zCl ((fun (u : zT) => (bX5 ah cy u)) u) t.heap) (va_A (bX5 ah cy S) sz)) 0 0 (va_A (bX5 ah cy S) sz) := by
  refine zOf_i (by decide) (Nat.le_of_ble_eq_true rfl) ?_
  intro p e s m below meth c ls A H locs hx hb hr hml hown htB hlocks hK hN hP hD hS hA hl
  replace hl : lv_has ls 3 [(0, .ref (ah 99))] := hl
  have L8 : ∀ (k8 : Nat) (x1 : Int32) (x2 : Int32) (S : zT), wpl_X5_followed_8 Q k8 x1 x2 S → ∀ (H : Heap) (locs : List Loc), va_P D zCl (bX5 ah cy S) H → va_D A (bX5 ah cy S) → va_S A s.heap H locs → ∀ ls : Array Slot, lv_has ls 3 [(0, .ref (ah 99)), (1, .int x1), (2, .int x2)] → W p l e rm_X5_followed s m ([.ref (ah 99)] : List Value).toArray below meth c H locs 0 0 (MQ below (va_Qi (S := zT) (fun (r : Int32) (u : zT) => Q r u) (fun u t => va_P D zCl ((fun (u : zT) => (bX5 ah cy u)) u) t.heap) A) ([.ref (ah 99)] : List Value).toArray s 0 0 A) (F0 m 8 ls []) := by
    intro k8
    induction k8 with
    | zero => exact fun x1 x2 S h => False.elim h
    | succ k8 ih8 =>
      have L43 : ∀ (x2 : Int32) (t0 : Int32) (t1 : Int32) (S : zT), wpb_X5_followed_43 Q (wpl_X5_followed_8 Q k8) x2 t0 t1 S → ∀ (H : Heap) (locs : List Loc), va_P D zCl (bX5 ah cy S) H → va_D A (bX5 ah cy S) → va_S A s.heap H locs → ∀ ls : Array Slot, lv_has ls 3 [(0, .ref (ah 99)), (2, .int x2)] → W p l e rm_X5_followed s m ([.ref (ah 99)] : List Value).toArray below meth c H locs 0 0 (MQ below (va_Qi (S := zT) (fun (r : Int32) (u : zT) => Q r u) (fun u t => va_P D zCl ((fun (u : zT) => (bX5 ah cy u)) u) t.heap) A) ([.ref (ah 99)] : List Value).toArray s 0 0 A) (F0 m 43 ls [.int t1, .int t0]) := by
        intro x2 t0 t1 S h H locs hP hD hS ls hl
        refine lv_ior hx hb dX5_followed_43 ?_
        refine lv_topi (fun y44 ey44 => ?_)
        replace h := h y44 ey44
        refine lv_istore_n (lv' := [(1, .int y44), (0, .ref (ah 99)), (2, .int x2)]) hx hb dX5_followed_44 rfl hl (by decide) rfl (fun ls hl => ?_)
        obtain ⟨y45, ey45⟩ : ∃ z : Int32, z = (x2 + (1 : Int32)) := ⟨_, rfl⟩
        replace h := h y45 ey45
        refine lv_iinc (v := y45) (lv' := [(2, .int y45), (1, .int y44), (0, .ref (ah 99))]) hx hb dX5_followed_45 hl (k := 2) rfl (by rw [ey45]; rfl) (by decide) rfl (fun ls hl => ?_)
        refine lv_goto (tgt := 8) hx hb dX5_followed_48 (by decide) ?_
        exact ih8 y44 y45 S h H locs hP hD hS ls (lv_sub hl [2, 1, 0] rfl)
      have L42 : ∀ (x2 : Int32) (t0 : Int32) (S : zT), wpb_X5_followed_42 Q (wpl_X5_followed_8 Q k8) x2 t0 S → ∀ (H : Heap) (locs : List Loc), va_P D zCl (bX5 ah cy S) H → va_D A (bX5 ah cy S) → va_S A s.heap H locs → ∀ ls : Array Slot, lv_has ls 3 [(0, .ref (ah 99)), (2, .int x2)] → W p l e rm_X5_followed s m ([.ref (ah 99)] : List Value).toArray below meth c H locs 0 0 (MQ below (va_Qi (S := zT) (fun (r : Int32) (u : zT) => Q r u) (fun u t => va_P D zCl ((fun (u : zT) => (bX5 ah cy u)) u) t.heap) A) ([.ref (ah 99)] : List Value).toArray s 0 0 A) (F0 m 42 ls [.int t0]) := by
        intro x2 t0 S h H locs hP hD hS ls hl
        refine lv_iconst (v := (0 : Int32)) hx hb dX5_followed_42 (by decide) ?_
        exact L43 x2 t0 (0 : Int32) S h H locs hP hD hS ls (lv_sub hl [0, 1] rfl)
      intro x1 x2 S h H locs hP hD hS ls hl
      refine lv_iload_n hx hb dX5_followed_8 rfl (lv_at hl 2 rfl) ?_
      refine lv_aload_n hx hb dX5_followed_9 rfl (lv_at hl 0 rfl) ?_
      refine va_get (D := D) (ci := 5) (v := .int (S 13 0)) (C := RX5) (T := TX5) (N := 41) hx hb htB ziX5 hown hK hP 0 rfl rfl 13 (by decide) (htB _ zm_258) (fun _ h9 => h9) rfl dX5_followed_10 ?_
      refine lv_icmp_ge (tgt := 51) hx hb dX5_followed_13 (by decide) (fun c13 => ?_) (fun c13 => ?_)
      · replace h := And.left h c13
        refine lv_iload_n hx hb dX5_followed_51 rfl (lv_at hl 1 rfl) ?_
        exact W.iret (v := x1) hx hb hr (fun t ht hW => ⟨⟨_, S, rfl, h, zP_h ht hP⟩, hS.F ht⟩) hS.2.2 dX5_followed_52
      · replace h := And.right h c13
        refine lv_iload_n hx hb dX5_followed_16 rfl (lv_at hl 1 rfl) ?_
        refine lv_aload_n hx hb dX5_followed_17 rfl (lv_at hl 0 rfl) ?_
        refine va_get (D := D) (ci := 5) (v := .ref (ah 1)) (C := RX5) (T := TX5) (N := 41) hx hb htB ziX5 hown hK hP 0 rfl rfl 1 (by decide) (htB _ zm_300) (fun _ h9 => h9) rfl dX5_followed_18 ?_
        refine lv_iload_n hx hb dX5_followed_21 rfl (lv_at hl 2 rfl) ?_
        refine va_iald (D := D) hx hb hK hP 2 0 rfl rfl (And.left h) dX5_followed_22 ?_
        replace h := And.right h
        refine lv_iconst (v := (4 : Int32)) hx hb dX5_followed_23 (by decide) ?_
        refine lv_icmp_eq (tgt := 42) hx hb dX5_followed_24 (by decide) (fun c24 => ?_) (fun c24 => ?_)
        · replace h := And.left h c24
          exact L42 x2 x1 S h H locs hP hD hS ls (lv_sub hl [0, 2] rfl)
        · replace h := And.right h c24
          refine lv_aload_n hx hb dX5_followed_27 rfl (lv_at hl 0 rfl) ?_
          refine va_get (D := D) (ci := 5) (v := .ref (ah 29)) (C := RX5) (T := TX5) (N := 41) hx hb htB ziX5 hown hK hP 0 rfl rfl 29 (by decide) (htB _ zm_367) (fun _ h9 => h9) rfl dX5_followed_28 ?_
          refine lv_iload_n hx hb dX5_followed_31 rfl (lv_at hl 2 rfl) ?_
          refine va_iald (D := D) hx hb hK hP 22 0 rfl rfl (And.left h) dX5_followed_32 ?_
          replace h := And.right h
          refine lv_if_ne (tgt := 42) hx hb dX5_followed_33 (by decide) (fun c33 => ?_) (fun c33 => ?_)
          · replace h := And.right h c33
            exact L42 x2 x1 S h H locs hP hD hS ls (lv_sub hl [0, 2] rfl)
          · replace h := And.left h c33
            refine lv_iconst (v := (1 : Int32)) hx hb dX5_followed_36 (by decide) ?_
            refine lv_iload_n hx hb dX5_followed_37 rfl (lv_at hl 2 rfl) ?_
            refine lv_ishl hx hb dX5_followed_38 ?_
            refine lv_goto (tgt := 43) hx hb dX5_followed_39 (by decide) ?_
            exact L43 x2 x1 ((1 : Int32) <<< (x2 &&& 31)) S h H locs hP hD hS ls (lv_sub hl [0, 2] rfl)
  refine lv_aload_n hx hb dX5_followed_0 rfl (lv_at hl 0 rfl) ?_
  refine zc_vf (ws' := fun u => (bX5 ah cy u)) (va_runV (As := []) (rest := []) ⟨hx, hb, hml, hown, htB⟩ (c_X5_goesAll l D cy ah H.size S h) (cwV 0 htB (zgV zm_400 zm_402 zm_403 zm_263 zm_401) rfl rfl rfl hd_X5_goesAll ⟨Nat.le_of_ble_eq_true rfl, Nat.le_of_ble_eq_true rfl⟩) ⟨zM_blind, va_recv hK hP (ci := 5) (q0 := 0) rfl rfl, zM_pre hP hK hN hD⟩ rfl rfl hl.1 rfl (lv_room (Nat.le_of_ble_eq_true rfl)) dX5_followed_1 ⟨Nat.zero_le _, Nat.zero_le _⟩) hS hA hP hD (fun u => rfl) (fun u => rfl) (fun u H locs h hP hD hS => ?_)
  obtain ⟨S_1, eu⟩ : ∃ z, z = u := ⟨_, rfl⟩
  subst eu
  replace hP : va_P D zCl (bX5 ah cy S_1) H := hP
  replace hD : va_D A (bX5 ah cy S_1) := hD
  refine lv_iconst (v := (0 : Int32)) hx hb dX5_followed_4 (by decide) ?_
  refine lv_istore_n (lv' := [(1, .int (0 : Int32)), (0, .ref (ah 99))]) hx hb dX5_followed_5 rfl hl (by decide) rfl (fun ls hl => ?_)
  refine lv_iconst (v := (0 : Int32)) hx hb dX5_followed_6 (by decide) ?_
  refine lv_istore_n (lv' := [(2, .int (0 : Int32)), (1, .int (0 : Int32)), (0, .ref (ah 99))]) hx hb dX5_followed_7 rfl hl (by decide) rfl (fun ls hl => ?_)
  obtain ⟨nn, h⟩ := h
  exact L8 nn (0 : Int32) (0 : Int32) S_1 h H locs hP hD hS ls (lv_sub hl [2, 1, 0] rfl)
set_option maxHeartbeats 4000000 in
set_option maxRecDepth 100000 in
theorem c_X5_porter (l : Launch) (D : va_G) (cy : ClassId) (ah : Nat → Nat) (sz : Nat) (S : zT) {Q : Int32 → zT → Prop} (h : wp_X5_porter S Q) : Met l yX5_porter w_X5_porter rm_X5_porter (va_Pc [.ref (ah 99)] (zM D cy (bX5 ah cy S) sz)) (va_Qi (S := zT) (fun (r : Int32) (u : zT) => Q r u) (fun u t => va_P D zCl ((fun (u : zT) => (bX5 ah cy u)) u) t.heap) (va_A (bX5 ah cy S) sz)) 0 0 (va_A (bX5 ah cy S) sz) := by
  refine zOf_i (by decide) (Nat.le_of_ble_eq_true rfl) ?_
  intro p e s m below meth c ls A H locs hx hb hr hml hown htB hlocks hK hN hP hD hS hA hl
  replace hl : lv_has ls 1 [(0, .ref (ah 99))] := hl
  refine lv_aload_n hx hb dX5_porter_0 rfl (lv_at hl 0 rfl) ?_
  refine lv_iconst (v := (0 : Int32)) hx hb dX5_porter_1 (by decide) ?_
  refine lv_aload_n hx hb dX5_porter_2 rfl (lv_at hl 0 rfl) ?_
  refine va_get (D := D) (ci := 5) (v := .ref (ah 8)) (C := RX5) (T := TX5) (N := 41) hx hb htB ziX5 hown hK hP 0 rfl rfl 8 (by decide) (htB _ zm_307) (fun _ h9 => h9) rfl dX5_porter_3 ?_
  refine lv_iconst (v := (3 : Int32)) hx hb dX5_porter_6 (by decide) ?_
  refine va_iald (D := D) hx hb hK hP 9 0 rfl rfl (And.left h) dX5_porter_7 ?_
  replace h := And.right h
  refine zc_if (ws' := fun u => (bX5 ah cy u)) (va_runV (As := [.int (0 : Int32), .int (S 8 (3 : Int32).toNatClampNeg)]) (rest := []) ⟨hx, hb, hml, hown, htB⟩ (c_X5_lossBy l D cy ah H.size (0 : Int32) (S 8 (3 : Int32).toNatClampNeg) S h) (cwV 2 htB (zgV zm_416 zm_418 zm_419 zm_263 zm_417) rfl rfl rfl hd_X5_lossBy ⟨Nat.le_of_ble_eq_true rfl, Nat.le_of_ble_eq_true rfl⟩) ⟨zM_blind, va_recv hK hP (ci := 5) (q0 := 0) rfl rfl, zM_pre hP hK hN hD⟩ rfl rfl hl.1 rfl (lv_room (Nat.le_of_ble_eq_true rfl)) dX5_porter_8 ⟨Nat.zero_le _, Nat.zero_le _⟩) hS hA hP hD (fun u => rfl) (fun u => rfl) (fun r8 u H locs h hP hD hS => ?_)
  obtain ⟨S_8, eu⟩ : ∃ z, z = u := ⟨_, rfl⟩
  subst eu
  replace hP : va_P D zCl (bX5 ah cy S_8) H := hP
  replace hD : va_D A (bX5 ah cy S_8) := hD
  exact W.iret (v := r8) hx hb hr (fun t ht hW => ⟨⟨_, S_8, rfl, h, zP_h ht hP⟩, hS.F ht⟩) hS.2.2 dX5_porter_11
set_option maxHeartbeats 4000000 in
set_option maxRecDepth 100000 in
theorem c_X5_alone (l : Launch) (D : va_G) (cy : ClassId) (ah : Nat → Nat) (sz : Nat) (i1 : Int32) (S : zT) {Q : Int32 → zT → Prop} (h : wp_X5_alone i1 S Q) : Met l yX5_alone w_X5_alone rm_X5_alone (va_Pc [.ref (ah 99), .int i1] (zM D cy (bX5 ah cy S) sz)) (va_Qi (S := zT) (fun (r : Int32) (u : zT) => Q r u) (fun u t => va_P D zCl ((fun (u : zT) => (bX5 ah cy u)) u) t.heap) (va_A (bX5 ah cy S) sz)) 0 0 (va_A (bX5 ah cy S) sz) := by
  refine zOf_i (by decide) (Nat.le_of_ble_eq_true rfl) ?_
  intro p e s m below meth c ls A H locs hx hb hr hml hown htB hlocks hK hN hP hD hS hA hl
  replace hl : lv_has ls 2 [(0, .ref (ah 99)), (1, .int i1)] := hl
  refine lv_aload_n hx hb dX5_alone_0 rfl (lv_at hl 0 rfl) ?_
  refine lv_iload_n hx hb dX5_alone_1 rfl (lv_at hl 1 rfl) ?_
  refine zc_r (va_runV (As := [.int i1]) (rest := []) ⟨hx, hb, hml, hown, htB⟩ (c_X5_isWalker l D cy ah S i1 h) (cwV 1 htB (zgV zm_341 zm_343 zm_344 zm_263 zm_342) rfl rfl rfl hd_X5_isWalker ⟨Nat.le_of_ble_eq_true rfl, Nat.le_of_ble_eq_true rfl⟩) ⟨zR_blind, va_recv hK hP (ci := 5) (q0 := 0) rfl rfl, zR_pre hP hK hN⟩ rfl rfl hl.1 rfl (lv_room (Nat.le_of_ble_eq_true rfl)) dX5_alone_2 ⟨Nat.zero_le _, Nat.zero_le _⟩) (fun r2 h => ?_)
  refine lv_if_ne (tgt := 14) hx hb dX5_alone_5 (by decide) (fun c5 => ?_) (fun c5 => ?_)
  · replace h := And.right h c5
    refine lv_aload_n hx hb dX5_alone_14 rfl (lv_at hl 0 rfl) ?_
    refine lv_iconst (v := (1 : Int32)) hx hb dX5_alone_15 (by decide) ?_
    refine lv_aload_n hx hb dX5_alone_16 rfl (lv_at hl 0 rfl) ?_
    refine va_get (D := D) (ci := 5) (v := .int (S 13 0)) (C := RX5) (T := TX5) (N := 41) hx hb htB ziX5 hown hK hP 0 rfl rfl 13 (by decide) (htB _ zm_258) (fun _ h9 => h9) rfl dX5_alone_17 ?_
    refine lv_ishl hx hb dX5_alone_20 ?_
    refine lv_iconst (v := (1 : Int32)) hx hb dX5_alone_21 (by decide) ?_
    refine lv_isub hx hb dX5_alone_22 ?_
    refine lv_iconst (v := (1 : Int32)) hx hb dX5_alone_23 (by decide) ?_
    refine lv_iload_n hx hb dX5_alone_24 rfl (lv_at hl 1 rfl) ?_
    refine lv_ishl hx hb dX5_alone_25 ?_
    refine lv_iconst (v := (-1 : Int32)) hx hb dX5_alone_26 (by decide) ?_
    refine lv_ixor hx hb dX5_alone_27 ?_
    refine lv_iand hx hb dX5_alone_28 ?_
    refine zc_vf (ws' := fun u => (bX5 ah cy u)) (va_runV (As := [.int ((((1 : Int32) <<< ((S 13 0) &&& 31)) - (1 : Int32)) &&& (((1 : Int32) <<< (i1 &&& 31)) ^^^ (-1 : Int32)))]) (rest := []) ⟨hx, hb, hml, hown, htB⟩ (c_X5_goes l D cy ah H.size ((((1 : Int32) <<< ((S 13 0) &&& 31)) - (1 : Int32)) &&& (((1 : Int32) <<< (i1 &&& 31)) ^^^ (-1 : Int32))) S h) (cwV 1 htB (zgV zm_392 zm_394 zm_395 zm_263 zm_393) rfl rfl rfl hd_X5_goes ⟨Nat.le_of_ble_eq_true rfl, Nat.le_of_ble_eq_true rfl⟩) ⟨zM_blind, va_recv hK hP (ci := 5) (q0 := 0) rfl rfl, zM_pre hP hK hN hD⟩ rfl rfl hl.1 rfl (lv_room (Nat.le_of_ble_eq_true rfl)) dX5_alone_29 ⟨Nat.zero_le _, Nat.zero_le _⟩) hS hA hP hD (fun u => rfl) (fun u => rfl) (fun u H locs h hP hD hS => ?_)
    obtain ⟨S_29, eu⟩ : ∃ z, z = u := ⟨_, rfl⟩
    subst eu
    replace hP : va_P D zCl (bX5 ah cy S_29) H := hP
    replace hD : va_D A (bX5 ah cy S_29) := hD
    refine lv_aload_n hx hb dX5_alone_32 rfl (lv_at hl 0 rfl) ?_
    refine zc_r (va_runV (As := []) (rest := []) ⟨hx, hb, hml, hown, htB⟩ (c_X5_lossOfAll l D cy ah S_29 h) (cwV 0 htB (zgV zm_404 zm_406 zm_407 zm_263 zm_405) rfl rfl rfl hd_X5_lossOfAll ⟨Nat.le_of_ble_eq_true rfl, Nat.le_of_ble_eq_true rfl⟩) ⟨zR_blind, va_recv hK hP (ci := 5) (q0 := 0) rfl rfl, zR_pre hP hK hN⟩ rfl rfl hl.1 rfl (lv_room (Nat.le_of_ble_eq_true rfl)) dX5_alone_33 ⟨Nat.zero_le _, Nat.zero_le _⟩) (fun r33 h => ?_)
    exact W.iret (v := r33) hx hb hr (fun t ht hW => ⟨⟨_, S_29, rfl, h, zP_h ht hP⟩, hS.F ht⟩) hS.2.2 dX5_alone_36
  · replace h := And.left h c5
    refine lv_aload_n hx hb dX5_alone_8 rfl (lv_at hl 0 rfl) ?_
    refine lv_iconst (v := (-1 : Int32)) hx hb dX5_alone_9 (by decide) ?_
    refine zc_if (ws' := fun u => (bX5 ah cy u)) (va_runV (As := [.int (-1 : Int32)]) (rest := []) ⟨hx, hb, hml, hown, htB⟩ (c_X5_no l D cy ah H.size (-1 : Int32) S h) (cwV 1 htB (zgV zm_261 zm_264 zm_265 zm_263 zm_262) rfl rfl rfl hd_X5_no ⟨Nat.le_of_ble_eq_true rfl, Nat.le_of_ble_eq_true rfl⟩) ⟨zM_blind, va_recv hK hP (ci := 5) (q0 := 0) rfl rfl, zM_pre hP hK hN hD⟩ rfl rfl hl.1 rfl (lv_room (Nat.le_of_ble_eq_true rfl)) dX5_alone_10 ⟨Nat.zero_le _, Nat.zero_le _⟩) hS hA hP hD (fun u => rfl) (fun u => rfl) (fun r10 u H locs h hP hD hS => ?_)
    obtain ⟨S_10, eu⟩ : ∃ z, z = u := ⟨_, rfl⟩
    subst eu
    replace hP : va_P D zCl (bX5 ah cy S_10) H := hP
    replace hD : va_D A (bX5 ah cy S_10) := hD
    exact W.iret (v := r10) hx hb hr (fun t ht hW => ⟨⟨_, S_10, rfl, h, zP_h ht hP⟩, hS.F ht⟩) hS.2.2 dX5_alone_13
set_option maxHeartbeats 4000000 in
set_option maxRecDepth 100000 in
theorem c_X5_filmFar (l : Launch) (D : va_G) (cy : ClassId)  (i0 : Int32) (i1 : Int32) (i2 : Int32) (i3 : Int32) {Q : Int32 → Prop} (h : wp_X5_filmFar i0 i1 i2 i3 Q) : Met l yX5_filmFar w_X5_filmFar rm_X5_filmFar (va_Pc [.int i0, .int i1, .int i2, .int i3] (zR D cy ([] : va_W))) (vp_Si Q) 0 0 (fun _ => False) := by
  refine zOf_r (by decide) (Nat.le_of_ble_eq_true rfl) ?_
  intro p e s m below meth c ls hx hb hr hml hown htB hlocks hK hN hP hl
  replace hl : lv_has ls 4 [(0, .int i0), (1, .int i1), (2, .int i2), (3, .int i3)] := hl
  refine lv_iload_n hx hb dX5_filmFar_0 rfl (lv_at hl 0 rfl) ?_
  refine lv_iconst (v := (2 : Int32)) hx hb dX5_filmFar_1 (by decide) ?_
  refine lv_icmp_ne (tgt := 13) hx hb dX5_filmFar_2 (by decide) (fun c2 => ?_) (fun c2 => ?_)
  · replace h := And.right h c2
    refine lv_iload_n hx hb dX5_filmFar_13 rfl (lv_at hl 0 rfl) ?_
    refine lv_iconst (v := (3 : Int32)) hx hb dX5_filmFar_14 (by decide) ?_
    refine lv_icmp_ne (tgt := 26) hx hb dX5_filmFar_15 (by decide) (fun c15 => ?_) (fun c15 => ?_)
    · replace h := And.right h c15
      refine lv_iload_n hx hb dX5_filmFar_26 rfl (lv_at hl 1 rfl) ?_
      exact W.iret (v := i1) hx hb hr (fun t ht hW => ⟨_, rfl, h, ht⟩) (fun q hq => by cases hq) dX5_filmFar_27
    · replace h := And.left h c15
      refine lv_iload_n hx hb dX5_filmFar_18 rfl (lv_at hl 1 rfl) ?_
      refine lv_iconst (v := (2 : Int32)) hx hb dX5_filmFar_19 (by decide) ?_
      refine lv_iload_n hx hb dX5_filmFar_20 rfl (lv_at hl 3 rfl) ?_
      refine lv_imul hx hb dX5_filmFar_21 ?_
      refine lv_iadd hx hb dX5_filmFar_22 ?_
      refine lv_goto (tgt := 27) hx hb dX5_filmFar_23 (by decide) ?_
      exact W.iret (v := (i1 + ((2 : Int32) * i3))) hx hb hr (fun t ht hW => ⟨_, rfl, h, ht⟩) (fun q hq => by cases hq) dX5_filmFar_27
  · replace h := And.left h c2
    refine lv_iload_n hx hb dX5_filmFar_5 rfl (lv_at hl 1 rfl) ?_
    refine lv_iconst (v := (4 : Int32)) hx hb dX5_filmFar_6 (by decide) ?_
    refine lv_iload_n hx hb dX5_filmFar_7 rfl (lv_at hl 2 rfl) ?_
    refine lv_imul hx hb dX5_filmFar_8 ?_
    refine lv_iadd hx hb dX5_filmFar_9 ?_
    refine lv_goto (tgt := 27) hx hb dX5_filmFar_10 (by decide) ?_
    exact W.iret (v := (i1 + ((4 : Int32) * i2))) hx hb hr (fun t ht hW => ⟨_, rfl, h, ht⟩) (fun q hq => by cases hq) dX5_filmFar_27
set_option maxHeartbeats 4000000 in
set_option maxRecDepth 100000 in
theorem c_X5_notFilm (l : Launch) (D : va_G) (cy : ClassId)  (i0 : Int32) (i1 : Int32) (i2 : Int32) (i3 : Int32) {Q : Int32 → Prop} (h : wp_X5_notFilm i0 i1 i2 i3 Q) : Met l yX5_notFilm w_X5_notFilm rm_X5_notFilm (va_Pc [.int i0, .int i1, .int i2, .int i3] (zR D cy ([] : va_W))) (vp_Si Q) 0 0 (fun _ => False) := by
  refine zOf_r (by decide) (Nat.le_of_ble_eq_true rfl) ?_
  intro p e s m below meth c ls hx hb hr hml hown htB hlocks hK hN hP hl
  replace hl : lv_has ls 4 [(0, .int i0), (1, .int i1), (2, .int i2), (3, .int i3)] := hl
  refine lv_iload_n hx hb dX5_notFilm_0 rfl (lv_at hl 0 rfl) ?_
  refine lv_iconst (v := (1 : Int32)) hx hb dX5_notFilm_1 (by decide) ?_
  refine lv_icmp_lt (tgt := 9) hx hb dX5_notFilm_2 (by decide) (fun c2 => ?_) (fun c2 => ?_)
  · replace h := And.left h c2
    refine lv_bipush (v := (-4 : Int32)) hx hb dX5_notFilm_9 (by decide) ?_
    exact W.iret (v := (-4 : Int32)) hx hb hr (fun t ht hW => ⟨_, rfl, h, ht⟩) (fun q hq => by cases hq) dX5_notFilm_11
  · replace h := And.right h c2
    refine lv_iload_n hx hb dX5_notFilm_5 rfl (lv_at hl 2 rfl) ?_
    refine lv_if_ge (tgt := 12) hx hb dX5_notFilm_6 (by decide) (fun c6 => ?_) (fun c6 => ?_)
    · replace h := And.left h c6
      refine lv_iload_n hx hb dX5_notFilm_12 rfl (lv_at hl 0 rfl) ?_
      refine lv_bipush (v := (40 : Int32)) hx hb dX5_notFilm_13 (by decide) ?_
      refine lv_icmp_gt (tgt := 23) hx hb dX5_notFilm_15 (by decide) (fun c15 => ?_) (fun c15 => ?_)
      · replace h := And.left h c15
        refine lv_bipush (v := (-6 : Int32)) hx hb dX5_notFilm_23 (by decide) ?_
        exact W.iret (v := (-6 : Int32)) hx hb hr (fun t ht hW => ⟨_, rfl, h, ht⟩) (fun q hq => by cases hq) dX5_notFilm_25
      · replace h := And.right h c15
        refine lv_iload_n hx hb dX5_notFilm_18 rfl (lv_at hl 2 rfl) ?_
        refine lv_iconst (v := (2 : Int32)) hx hb dX5_notFilm_19 (by decide) ?_
        refine lv_icmp_le (tgt := 26) hx hb dX5_notFilm_20 (by decide) (fun c20 => ?_) (fun c20 => ?_)
        · replace h := And.left h c20
          refine lv_iload_n hx hb dX5_notFilm_26 rfl (lv_at hl 1 rfl) ?_
          refine lv_iconst (v := (0 : Int32)) hx hb dX5_notFilm_27 (by decide) ?_
          refine lv_iconst (v := (1 : Int32)) hx hb dX5_notFilm_28 (by decide) ?_
          refine zc_r (va_runS (As := [.int i1, .int (0 : Int32), .int (1 : Int32)]) (rest := []) ⟨hx, hb, hml, hown, htB⟩ (c_X5_isIn l D cy  i1 (0 : Int32) (1 : Int32) h) (cwS 3 htB (zgS zm_275 zm_277 zm_263 zm_276) rfl rfl rfl hd_X5_isIn ⟨Nat.le_of_ble_eq_true rfl, Nat.le_of_ble_eq_true rfl⟩) ⟨zR_blind, zR_pre hP hK hN⟩ rfl rfl hl.1 rfl (lv_room (Nat.le_of_ble_eq_true rfl)) dX5_notFilm_29 ⟨Nat.zero_le _, Nat.zero_le _⟩) (fun r29 h => ?_)
          refine lv_if_eq (tgt := 48) hx hb dX5_notFilm_32 (by decide) (fun c32 => ?_) (fun c32 => ?_)
          · replace h := And.left h c32
            refine lv_bipush (v := (-2 : Int32)) hx hb dX5_notFilm_48 (by decide) ?_
            exact W.iret (v := (-2 : Int32)) hx hb hr (fun t ht hW => ⟨_, rfl, h, ht⟩) (fun q hq => by cases hq) dX5_notFilm_50
          · replace h := And.right h c32
            refine lv_iload_n hx hb dX5_notFilm_35 rfl (lv_at hl 3 rfl) ?_
            refine lv_iconst (v := (0 : Int32)) hx hb dX5_notFilm_36 (by decide) ?_
            refine lv_iconst (v := (1 : Int32)) hx hb dX5_notFilm_37 (by decide) ?_
            refine zc_r (va_runS (As := [.int i3, .int (0 : Int32), .int (1 : Int32)]) (rest := []) ⟨hx, hb, hml, hown, htB⟩ (c_X5_isIn l D cy  i3 (0 : Int32) (1 : Int32) h) (cwS 3 htB (zgS zm_275 zm_277 zm_263 zm_276) rfl rfl rfl hd_X5_isIn ⟨Nat.le_of_ble_eq_true rfl, Nat.le_of_ble_eq_true rfl⟩) ⟨zR_blind, zR_pre hP hK hN⟩ rfl rfl hl.1 rfl (lv_room (Nat.le_of_ble_eq_true rfl)) dX5_notFilm_38 ⟨Nat.zero_le _, Nat.zero_le _⟩) (fun r38 h => ?_)
            refine lv_if_eq (tgt := 48) hx hb dX5_notFilm_41 (by decide) (fun c41 => ?_) (fun c41 => ?_)
            · replace h := And.left h c41
              refine lv_bipush (v := (-2 : Int32)) hx hb dX5_notFilm_48 (by decide) ?_
              exact W.iret (v := (-2 : Int32)) hx hb hr (fun t ht hW => ⟨_, rfl, h, ht⟩) (fun q hq => by cases hq) dX5_notFilm_50
            · replace h := And.right h c41
              refine lv_iconst (v := (0 : Int32)) hx hb dX5_notFilm_44 (by decide) ?_
              refine lv_goto (tgt := 50) hx hb dX5_notFilm_45 (by decide) ?_
              exact W.iret (v := (0 : Int32)) hx hb hr (fun t ht hW => ⟨_, rfl, h, ht⟩) (fun q hq => by cases hq) dX5_notFilm_50
        · replace h := And.right h c20
          refine lv_bipush (v := (-6 : Int32)) hx hb dX5_notFilm_23 (by decide) ?_
          exact W.iret (v := (-6 : Int32)) hx hb hr (fun t ht hW => ⟨_, rfl, h, ht⟩) (fun q hq => by cases hq) dX5_notFilm_25
    · replace h := And.right h c6
      refine lv_bipush (v := (-4 : Int32)) hx hb dX5_notFilm_9 (by decide) ?_
      exact W.iret (v := (-4 : Int32)) hx hb hr (fun t ht hW => ⟨_, rfl, h, ht⟩) (fun q hq => by cases hq) dX5_notFilm_11
set_option maxHeartbeats 4000000 in
set_option maxRecDepth 100000 in
theorem c_X5_addsFilm (l : Launch) (D : va_G) (cy : ClassId) (ah : Nat → Nat) (sz : Nat) (i1 : Int32) (i2 : Int32) (i3 : Int32) (i4 : Int32) (S : zT) {Q : zT → Prop} (h : wp_X5_addsFilm i1 i2 i3 i4 S Q) : Met l yX5_addsFilm w_X5_addsFilm rm_X5_addsFilm (va_Pc [.ref (ah 99), .int i1, .int i2, .int i3, .int i4] (zM D cy (bX5 ah cy S) sz)) (va_Qv (S := zT) (fun (u : zT) => Q u) (fun u t => va_P D zCl ((fun (u : zT) => (bX5 ah cy u)) u) t.heap) (va_A (bX5 ah cy S) sz)) 0 0 (va_A (bX5 ah cy S) sz) := by
  refine zOf_v (by decide) (Nat.le_of_ble_eq_true rfl) ?_
  intro p e s m below meth c ls A H locs hx hb hr hml hown htB hlocks hK hN hP hD hS hA hl
  replace hl : lv_has ls 5 [(0, .ref (ah 99)), (1, .int i1), (2, .int i2), (3, .int i3), (4, .int i4)] := hl
  refine lv_aload_n hx hb dX5_addsFilm_0 rfl (lv_at hl 0 rfl) ?_
  refine va_get (D := D) (ci := 5) (v := .ref (ah 9)) (C := RX5) (T := TX5) (N := 41) hx hb htB ziX5 hown hK hP 0 rfl rfl 9 (by decide) (htB _ zm_319) (fun _ h9 => h9) rfl dX5_addsFilm_1 ?_
  refine lv_aload_n hx hb dX5_addsFilm_4 rfl (lv_at hl 0 rfl) ?_
  refine va_get (D := D) (ci := 5) (v := .int (S 14 0)) (C := RX5) (T := TX5) (N := 41) hx hb htB ziX5 hown hK hP 0 rfl rfl 14 (by decide) (htB _ zm_327) (fun _ h9 => h9) rfl dX5_addsFilm_5 ?_
  refine lv_iload_n hx hb dX5_addsFilm_8 rfl (lv_at hl 1 rfl) ?_
  refine va_iast (D := D) hx hb hK hP hD hS 10 0 rfl rfl (And.left h) dX5_addsFilm_9 (fun H locs hP hD hS => ?_)
  replace h := And.right h
  obtain ⟨S_9, eS_9⟩ : ∃ z : zT, z = (va_up S 9 (upd (S 9) (S 14 0).toNatClampNeg i1)) := ⟨_, rfl⟩
  replace h := h S_9 eS_9
  replace hP : va_P D zCl (bX5 ah cy S_9) H := by rw [eS_9]; exact hP
  replace hD : va_D A (bX5 ah cy S_9) := by rw [eS_9]; exact hD
  refine lv_aload_n hx hb dX5_addsFilm_10 rfl (lv_at hl 0 rfl) ?_
  refine va_get (D := D) (ci := 5) (v := .ref (ah 10)) (C := RX5) (T := TX5) (N := 41) hx hb htB ziX5 hown hK hP 0 rfl rfl 10 (by decide) (htB _ zm_320) (fun _ h9 => h9) rfl dX5_addsFilm_11 ?_
  refine lv_aload_n hx hb dX5_addsFilm_14 rfl (lv_at hl 0 rfl) ?_
  refine va_get (D := D) (ci := 5) (v := .int (S_9 14 0)) (C := RX5) (T := TX5) (N := 41) hx hb htB ziX5 hown hK hP 0 rfl rfl 14 (by decide) (htB _ zm_327) (fun _ h9 => h9) rfl dX5_addsFilm_15 ?_
  refine lv_iload_n hx hb dX5_addsFilm_18 rfl (lv_at hl 2 rfl) ?_
  refine va_iast (D := D) hx hb hK hP hD hS 11 0 rfl rfl (And.left h) dX5_addsFilm_19 (fun H locs hP hD hS => ?_)
  replace h := And.right h
  obtain ⟨S_19, eS_19⟩ : ∃ z : zT, z = (va_up S_9 10 (upd (S_9 10) (S_9 14 0).toNatClampNeg i2)) := ⟨_, rfl⟩
  replace h := h S_19 eS_19
  replace hP : va_P D zCl (bX5 ah cy S_19) H := by rw [eS_19]; exact hP
  replace hD : va_D A (bX5 ah cy S_19) := by rw [eS_19]; exact hD
  refine lv_aload_n hx hb dX5_addsFilm_20 rfl (lv_at hl 0 rfl) ?_
  refine va_get (D := D) (ci := 5) (v := .ref (ah 11)) (C := RX5) (T := TX5) (N := 41) hx hb htB ziX5 hown hK hP 0 rfl rfl 11 (by decide) (htB _ zm_321) (fun _ h9 => h9) rfl dX5_addsFilm_21 ?_
  refine lv_aload_n hx hb dX5_addsFilm_24 rfl (lv_at hl 0 rfl) ?_
  refine va_get (D := D) (ci := 5) (v := .int (S_19 14 0)) (C := RX5) (T := TX5) (N := 41) hx hb htB ziX5 hown hK hP 0 rfl rfl 14 (by decide) (htB _ zm_327) (fun _ h9 => h9) rfl dX5_addsFilm_25 ?_
  refine lv_iload_n hx hb dX5_addsFilm_28 rfl (lv_at hl 3 rfl) ?_
  refine va_iast (D := D) hx hb hK hP hD hS 12 0 rfl rfl (And.left h) dX5_addsFilm_29 (fun H locs hP hD hS => ?_)
  replace h := And.right h
  obtain ⟨S_29, eS_29⟩ : ∃ z : zT, z = (va_up S_19 11 (upd (S_19 11) (S_19 14 0).toNatClampNeg i3)) := ⟨_, rfl⟩
  replace h := h S_29 eS_29
  replace hP : va_P D zCl (bX5 ah cy S_29) H := by rw [eS_29]; exact hP
  replace hD : va_D A (bX5 ah cy S_29) := by rw [eS_29]; exact hD
  refine lv_aload_n hx hb dX5_addsFilm_30 rfl (lv_at hl 0 rfl) ?_
  refine va_get (D := D) (ci := 5) (v := .ref (ah 12)) (C := RX5) (T := TX5) (N := 41) hx hb htB ziX5 hown hK hP 0 rfl rfl 12 (by decide) (htB _ zm_322) (fun _ h9 => h9) rfl dX5_addsFilm_31 ?_
  refine lv_aload_n hx hb dX5_addsFilm_34 rfl (lv_at hl 0 rfl) ?_
  refine va_get (D := D) (ci := 5) (v := .int (S_29 14 0)) (C := RX5) (T := TX5) (N := 41) hx hb htB ziX5 hown hK hP 0 rfl rfl 14 (by decide) (htB _ zm_327) (fun _ h9 => h9) rfl dX5_addsFilm_35 ?_
  refine lv_iload hx hb dX5_addsFilm_38 (lv_at hl 4 rfl) ?_
  refine va_iast (D := D) hx hb hK hP hD hS 13 0 rfl rfl (And.left h) dX5_addsFilm_40 (fun H locs hP hD hS => ?_)
  replace h := And.right h
  obtain ⟨S_40, eS_40⟩ : ∃ z : zT, z = (va_up S_29 12 (upd (S_29 12) (S_29 14 0).toNatClampNeg i4)) := ⟨_, rfl⟩
  replace h := h S_40 eS_40
  replace hP : va_P D zCl (bX5 ah cy S_40) H := by rw [eS_40]; exact hP
  replace hD : va_D A (bX5 ah cy S_40) := by rw [eS_40]; exact hD
  refine lv_aload_n hx hb dX5_addsFilm_41 rfl (lv_at hl 0 rfl) ?_
  refine lv_dup hx hb dX5_addsFilm_42 rfl ?_
  refine va_get (D := D) (ci := 5) (v := .int (S_40 14 0)) (C := RX5) (T := TX5) (N := 41) hx hb htB ziX5 hown hK hP 0 rfl rfl 14 (by decide) (htB _ zm_327) (fun _ h9 => h9) rfl dX5_addsFilm_43 ?_
  refine lv_iconst (v := (1 : Int32)) hx hb dX5_addsFilm_46 (by decide) ?_
  refine lv_iadd hx hb dX5_addsFilm_47 ?_
  refine va_put (D := D) (ci := 5) (v := .int ((S_40 14 0) + (1 : Int32))) (ty := .int) (C := RX5) (T := TX5) (N := 41) hx hb htB ziX5 tyX5 tyX5_ok nmX5 hown hK hP hD hS 0 rfl rfl 14 (by decide) (htB _ zm_327) (fun _ h9 => h9) rfl (tyX5_ok 14 (by decide)) rfl rfl (Nat.le_of_ble_eq_true rfl) dX5_addsFilm_48 (fun H locs hP hD hS => ?_)
  obtain ⟨S_48, eS_48⟩ : ∃ z : zT, z = (va_up S_40 14 (fun _ => ((S_40 14 0) + (1 : Int32)))) := ⟨_, rfl⟩
  replace h := h S_48 eS_48
  replace hP : va_P D zCl (bX5 ah cy S_48) H := by rw [eS_48]; exact hP
  replace hD : va_D A (bX5 ah cy S_48) := by rw [eS_48]; exact hD
  exact W.vret hx hb hr (fun t ht hW => ⟨⟨S_48, rfl, h, zP_h ht hP⟩, hS.F ht⟩) hS.2.2 dX5_addsFilm_51
set_option maxHeartbeats 4000000 in
set_option maxRecDepth 100000 in
theorem c_X5_film (l : Launch) (D : va_G) (cy : ClassId) (ah : Nat → Nat) (sz : Nat) (i1 : Int32) (i2 : Int32) (i3 : Int32) (i4 : Int32) (S : zT) {Q : Int32 → zT → Prop} (h : wp_X5_film i1 i2 i3 i4 S Q) : Met l yX5_film w_X5_film rm_X5_film (va_Pc [.ref (ah 99), .int i1, .int i2, .int i3, .int i4] (zM D cy (bX5 ah cy S) sz)) (va_Qi (S := zT) (fun (r : Int32) (u : zT) => Q r u) (fun u t => va_P D zCl ((fun (u : zT) => (bX5 ah cy u)) u) t.heap) (va_A (bX5 ah cy S) sz)) 0 0 (va_A (bX5 ah cy S) sz) := by
  refine zOf_i (by decide) (Nat.le_of_ble_eq_true rfl) ?_
  intro p e s m below meth c ls A H locs hx hb hr hml hown htB hlocks hK hN hP hD hS hA hl
  replace hl : lv_has ls 6 [(0, .ref (ah 99)), (1, .int i1), (2, .int i2), (3, .int i3), (4, .int i4)] := hl
  have L28 : ∀ (x5 : Int32) (S : zT), wpb_X5_film_28 i1 i2 i3 i4 Q x5 S → ∀ (H : Heap) (locs : List Loc), va_P D zCl (bX5 ah cy S) H → va_D A (bX5 ah cy S) → va_S A s.heap H locs → ∀ ls : Array Slot, lv_has ls 6 [(0, .ref (ah 99)), (1, .int i1), (2, .int i2), (3, .int i3), (4, .int i4), (5, .int x5)] → W p l e rm_X5_film s m ([.ref (ah 99), .int i1, .int i2, .int i3, .int i4] : List Value).toArray below meth c H locs 0 0 (MQ below (va_Qi (S := zT) (fun (r : Int32) (u : zT) => Q r u) (fun u t => va_P D zCl ((fun (u : zT) => (bX5 ah cy u)) u) t.heap) A) ([.ref (ah 99), .int i1, .int i2, .int i3, .int i4] : List Value).toArray s 0 0 A) (F0 m 28 ls []) := by
    intro x5 S h H locs hP hD hS ls hl
    refine lv_iload hx hb dX5_film_28 (lv_at hl 5 rfl) ?_
    refine lv_if_eq (tgt := 40) hx hb dX5_film_30 (by decide) (fun c30 => ?_) (fun c30 => ?_)
    · replace h := And.left h c30
      refine lv_aload_n hx hb dX5_film_40 rfl (lv_at hl 0 rfl) ?_
      refine lv_iload_n hx hb dX5_film_41 rfl (lv_at hl 1 rfl) ?_
      refine lv_iload_n hx hb dX5_film_42 rfl (lv_at hl 2 rfl) ?_
      refine lv_iload_n hx hb dX5_film_43 rfl (lv_at hl 3 rfl) ?_
      refine lv_iload hx hb dX5_film_44 (lv_at hl 4 rfl) ?_
      refine zc_vf (ws' := fun u => (bX5 ah cy u)) (va_runV (As := [.int i1, .int i2, .int i3, .int i4]) (rest := []) ⟨hx, hb, hml, hown, htB⟩ (c_X5_addsFilm l D cy ah H.size i1 i2 i3 i4 S h) (cwV 4 htB (zgV zm_421 zm_423 zm_424 zm_263 zm_422) rfl rfl rfl hd_X5_addsFilm ⟨Nat.le_of_ble_eq_true rfl, Nat.le_of_ble_eq_true rfl⟩) ⟨zM_blind, va_recv hK hP (ci := 5) (q0 := 0) rfl rfl, zM_pre hP hK hN hD⟩ rfl rfl hl.1 rfl (lv_room (Nat.le_of_ble_eq_true rfl)) dX5_film_46 ⟨Nat.zero_le _, Nat.zero_le _⟩) hS hA hP hD (fun u => rfl) (fun u => rfl) (fun u H locs h hP hD hS => ?_)
      obtain ⟨S_46, eu⟩ : ∃ z, z = u := ⟨_, rfl⟩
      subst eu
      replace hP : va_P D zCl (bX5 ah cy S_46) H := hP
      replace hD : va_D A (bX5 ah cy S_46) := hD
      refine lv_aload_n hx hb dX5_film_49 rfl (lv_at hl 0 rfl) ?_
      refine va_get (D := D) (ci := 5) (v := .int (S_46 14 0)) (C := RX5) (T := TX5) (N := 41) hx hb htB ziX5 hown hK hP 0 rfl rfl 14 (by decide) (htB _ zm_327) (fun _ h9 => h9) rfl dX5_film_50 ?_
      exact W.iret (v := (S_46 14 0)) hx hb hr (fun t ht hW => ⟨⟨_, S_46, rfl, h, zP_h ht hP⟩, hS.F ht⟩) hS.2.2 dX5_film_53
    · replace h := And.right h c30
      refine lv_aload_n hx hb dX5_film_33 rfl (lv_at hl 0 rfl) ?_
      refine lv_iload hx hb dX5_film_34 (lv_at hl 5 rfl) ?_
      refine zc_if (ws' := fun u => (bX5 ah cy u)) (va_runV (As := [.int x5]) (rest := []) ⟨hx, hb, hml, hown, htB⟩ (c_X5_no l D cy ah H.size x5 S h) (cwV 1 htB (zgV zm_261 zm_264 zm_265 zm_263 zm_262) rfl rfl rfl hd_X5_no ⟨Nat.le_of_ble_eq_true rfl, Nat.le_of_ble_eq_true rfl⟩) ⟨zM_blind, va_recv hK hP (ci := 5) (q0 := 0) rfl rfl, zM_pre hP hK hN hD⟩ rfl rfl hl.1 rfl (lv_room (Nat.le_of_ble_eq_true rfl)) dX5_film_36 ⟨Nat.zero_le _, Nat.zero_le _⟩) hS hA hP hD (fun u => rfl) (fun u => rfl) (fun r36 u H locs h hP hD hS => ?_)
      obtain ⟨S_36, eu⟩ : ∃ z, z = u := ⟨_, rfl⟩
      subst eu
      replace hP : va_P D zCl (bX5 ah cy S_36) H := hP
      replace hD : va_D A (bX5 ah cy S_36) := hD
      exact W.iret (v := r36) hx hb hr (fun t ht hW => ⟨⟨_, S_36, rfl, h, zP_h ht hP⟩, hS.F ht⟩) hS.2.2 dX5_film_39
  refine lv_iload_n hx hb dX5_film_0 rfl (lv_at hl 1 rfl) ?_
  refine lv_iload_n hx hb dX5_film_1 rfl (lv_at hl 2 rfl) ?_
  refine lv_iload_n hx hb dX5_film_2 rfl (lv_at hl 3 rfl) ?_
  refine lv_iload hx hb dX5_film_3 (lv_at hl 4 rfl) ?_
  have hPc : va_P D zCl ([] : va_W) H := hP.sub [] rfl
  refine zc_r (va_runS (As := [.int i1, .int i2, .int i3, .int i4]) (rest := []) ⟨hx, hb, hml, hown, htB⟩ (c_X5_notFilm l D cy  i1 i2 i3 i4 h) (cwS 4 htB (zgS zm_425 zm_427 zm_263 zm_426) rfl rfl rfl hd_X5_notFilm ⟨Nat.le_of_ble_eq_true rfl, Nat.le_of_ble_eq_true rfl⟩) ⟨zR_blind, zR_pre hPc hK hN⟩ rfl rfl hl.1 rfl (lv_room (Nat.le_of_ble_eq_true rfl)) dX5_film_5 ⟨Nat.zero_le _, Nat.zero_le _⟩) (fun r5 h => ?_)
  refine lv_istore (lv' := [(5, .int r5), (0, .ref (ah 99)), (1, .int i1), (2, .int i2), (3, .int i3), (4, .int i4)]) hx hb dX5_film_8 hl (by decide) rfl (fun ls hl => ?_)
  refine lv_iload hx hb dX5_film_10 (lv_at hl 0 rfl) ?_
  refine lv_if_ne (tgt := 28) hx hb dX5_film_12 (by decide) (fun c12 => ?_) (fun c12 => ?_)
  · replace h := And.right h c12
    exact L28 r5 S h H locs hP hD hS ls (lv_sub hl [1, 2, 3, 4, 5, 0] rfl)
  · replace h := And.left h c12
    refine lv_aload_n hx hb dX5_film_15 rfl (lv_at hl 1 rfl) ?_
    refine va_get (D := D) (ci := 5) (v := .int (S 14 0)) (C := RX5) (T := TX5) (N := 41) hx hb htB ziX5 hown hK hP 0 rfl rfl 14 (by decide) (htB _ zm_327) (fun _ h9 => h9) rfl dX5_film_16 ?_
    refine lv_bipush (v := (10 : Int32)) hx hb dX5_film_19 (by decide) ?_
    refine lv_icmp_ne (tgt := 28) hx hb dX5_film_21 (by decide) (fun c21 => ?_) (fun c21 => ?_)
    · replace h := And.right h c21
      exact L28 r5 S h H locs hP hD hS ls (lv_sub hl [1, 2, 3, 4, 5, 0] rfl)
    · replace h := And.left h c21
      refine lv_bipush (v := (-6 : Int32)) hx hb dX5_film_24 (by decide) ?_
      refine lv_istore (lv' := [(5, .int (-6 : Int32)), (0, .ref (ah 99)), (1, .int i1), (2, .int i2), (3, .int i3), (4, .int i4)]) hx hb dX5_film_26 hl (by decide) rfl (fun ls hl => ?_)
      exact L28 (-6 : Int32) S h H locs hP hD hS ls (lv_sub hl [1, 2, 3, 4, 5, 0] rfl)
set_option maxHeartbeats 4000000 in
set_option maxRecDepth 100000 in
theorem c_X5_told (l : Launch) (D : va_G) (cy : ClassId) (ah : Nat → Nat) (sz : Nat) (i1 : Int32) (i2 : Int32) (i3 : Int32) (S : zT) {Q : Int32 → zT → Prop} (h : wp_X5_told i1 i2 i3 S Q) : Met l yX5_told w_X5_told rm_X5_told (va_Pc [.ref (ah 99), .int i1, .int i2, .int i3] (zM D cy (bX5 ah cy S) sz)) (va_Qi (S := zT) (fun (r : Int32) (u : zT) => Q r u) (fun u t => va_P D zCl ((fun (u : zT) => (bX5 ah cy u)) u) t.heap) (va_A (bX5 ah cy S) sz)) 0 0 (va_A (bX5 ah cy S) sz) := by
  refine zOf_i (by decide) (Nat.le_of_ble_eq_true rfl) ?_
  intro p e s m below meth c ls A H locs hx hb hr hml hown htB hlocks hK hN hP hD hS hA hl
  replace hl : lv_has ls 6 [(0, .ref (ah 99)), (1, .int i1), (2, .int i2), (3, .int i3)] := hl
  have L88 : ∀ (t0 : Int32) (S : zT), wpb_X5_told_88 i1 i2 i3 Q t0 S → ∀ (H : Heap) (locs : List Loc), va_P D zCl (bX5 ah cy S) H → va_D A (bX5 ah cy S) → va_S A s.heap H locs → ∀ ls : Array Slot, lv_has ls 6 [(0, .ref (ah 99)), (1, .int i1), (2, .int i2), (3, .int i3)] → W p l e rm_X5_told s m ([.ref (ah 99), .int i1, .int i2, .int i3] : List Value).toArray below meth c H locs 0 0 (MQ below (va_Qi (S := zT) (fun (r : Int32) (u : zT) => Q r u) (fun u t => va_P D zCl ((fun (u : zT) => (bX5 ah cy u)) u) t.heap) A) ([.ref (ah 99), .int i1, .int i2, .int i3] : List Value).toArray s 0 0 A) (F0 m 88 ls [.int t0]) := by
    intro t0 S h H locs hP hD hS ls hl
    refine lv_istore (lv' := [(5, .int t0), (0, .ref (ah 99)), (1, .int i1), (2, .int i2), (3, .int i3)]) hx hb dX5_told_88 hl (by decide) rfl (fun ls hl => ?_)
    refine lv_aload_n hx hb dX5_told_90 rfl (lv_at hl 1 rfl) ?_
    refine lv_iload_n hx hb dX5_told_91 rfl (lv_at hl 2 rfl) ?_
    refine lv_iload_n hx hb dX5_told_92 rfl (lv_at hl 3 rfl) ?_
    refine lv_iload_n hx hb dX5_told_93 rfl (lv_at hl 4 rfl) ?_
    refine lv_iload hx hb dX5_told_94 (lv_at hl 0 rfl) ?_
    refine zc_vf (ws' := fun u => (bX5 ah cy u)) (va_runV (As := [.int i1, .int i2, .int i3, .int t0]) (rest := []) ⟨hx, hb, hml, hown, htB⟩ (c_X5_addsFilm l D cy ah H.size i1 i2 i3 t0 S h) (cwV 4 htB (zgV zm_421 zm_423 zm_424 zm_263 zm_422) rfl rfl rfl hd_X5_addsFilm ⟨Nat.le_of_ble_eq_true rfl, Nat.le_of_ble_eq_true rfl⟩) ⟨zM_blind, va_recv hK hP (ci := 5) (q0 := 0) rfl rfl, zM_pre hP hK hN hD⟩ rfl rfl hl.1 rfl (lv_room (Nat.le_of_ble_eq_true rfl)) dX5_told_96 ⟨Nat.zero_le _, Nat.zero_le _⟩) hS hA hP hD (fun u => rfl) (fun u => rfl) (fun u H locs h hP hD hS => ?_)
    obtain ⟨S_96, eu⟩ : ∃ z, z = u := ⟨_, rfl⟩
    subst eu
    replace hP : va_P D zCl (bX5 ah cy S_96) H := hP
    replace hD : va_D A (bX5 ah cy S_96) := hD
    refine lv_iload hx hb dX5_told_99 (lv_at hl 0 rfl) ?_
    exact W.iret (v := t0) hx hb hr (fun t ht hW => ⟨⟨_, S_96, rfl, h, zP_h ht hP⟩, hS.F ht⟩) hS.2.2 dX5_told_101
  have L50 : ∀ (x4 : Int32) (S : zT), wpb_X5_told_50 i1 i2 i3 Q x4 S → ∀ (H : Heap) (locs : List Loc), va_P D zCl (bX5 ah cy S) H → va_D A (bX5 ah cy S) → va_S A s.heap H locs → ∀ ls : Array Slot, lv_has ls 6 [(0, .ref (ah 99)), (1, .int i1), (2, .int i2), (3, .int i3), (4, .int x4)] → W p l e rm_X5_told s m ([.ref (ah 99), .int i1, .int i2, .int i3] : List Value).toArray below meth c H locs 0 0 (MQ below (va_Qi (S := zT) (fun (r : Int32) (u : zT) => Q r u) (fun u t => va_P D zCl ((fun (u : zT) => (bX5 ah cy u)) u) t.heap) A) ([.ref (ah 99), .int i1, .int i2, .int i3] : List Value).toArray s 0 0 A) (F0 m 50 ls []) := by
    intro x4 S h H locs hP hD hS ls hl
    refine lv_iload hx hb dX5_told_50 (lv_at hl 4 rfl) ?_
    refine lv_if_eq (tgt := 62) hx hb dX5_told_52 (by decide) (fun c52 => ?_) (fun c52 => ?_)
    · replace h := And.left h c52
      refine lv_iload_n hx hb dX5_told_62 rfl (lv_at hl 1 rfl) ?_
      refine lv_aload_n hx hb dX5_told_63 rfl (lv_at hl 0 rfl) ?_
      refine va_get (D := D) (ci := 5) (v := .ref (ah 8)) (C := RX5) (T := TX5) (N := 41) hx hb htB ziX5 hown hK hP 0 rfl rfl 8 (by decide) (htB _ zm_307) (fun _ h9 => h9) rfl dX5_told_64 ?_
      refine lv_iconst (v := (4 : Int32)) hx hb dX5_told_67 (by decide) ?_
      refine va_iald (D := D) hx hb hK hP 9 0 rfl rfl (And.left h) dX5_told_68 ?_
      replace h := And.right h
      refine lv_aload_n hx hb dX5_told_69 rfl (lv_at hl 0 rfl) ?_
      refine va_get (D := D) (ci := 5) (v := .ref (ah 8)) (C := RX5) (T := TX5) (N := 41) hx hb htB ziX5 hown hK hP 0 rfl rfl 8 (by decide) (htB _ zm_307) (fun _ h9 => h9) rfl dX5_told_70 ?_
      refine lv_iconst (v := (3 : Int32)) hx hb dX5_told_73 (by decide) ?_
      refine va_iald (D := D) hx hb hK hP 9 0 rfl rfl (And.left h) dX5_told_74 ?_
      replace h := And.right h
      refine lv_iload_n hx hb dX5_told_75 rfl (lv_at hl 2 rfl) ?_
      refine lv_iload_n hx hb dX5_told_76 rfl (lv_at hl 3 rfl) ?_
      have hPc : va_P D zCl ([] : va_W) H := hP.sub [] rfl
      refine zc_r (va_runS (As := [.int (S 8 (4 : Int32).toNatClampNeg), .int (S 8 (3 : Int32).toNatClampNeg), .int i2, .int i3]) (rest := [.int i1]) ⟨hx, hb, hml, hown, htB⟩ (c_X5_filmFar l D cy  (S 8 (4 : Int32).toNatClampNeg) (S 8 (3 : Int32).toNatClampNeg) i2 i3 h) (cwS 4 htB (zgS zm_428 zm_430 zm_263 zm_429) rfl rfl rfl hd_X5_filmFar ⟨Nat.le_of_ble_eq_true rfl, Nat.le_of_ble_eq_true rfl⟩) ⟨zR_blind, zR_pre hPc hK hN⟩ rfl rfl hl.1 rfl (lv_room (Nat.le_of_ble_eq_true rfl)) dX5_told_77 ⟨Nat.zero_le _, Nat.zero_le _⟩) (fun r77 h => ?_)
      refine lv_icmp_gt (tgt := 87) hx hb dX5_told_80 (by decide) (fun c80 => ?_) (fun c80 => ?_)
      · replace h := And.left h c80
        refine lv_iconst (v := (0 : Int32)) hx hb dX5_told_87 (by decide) ?_
        exact L88 (0 : Int32) S h H locs hP hD hS ls (lv_sub hl [0, 1, 2, 3] rfl)
      · replace h := And.right h c80
        refine lv_iconst (v := (1 : Int32)) hx hb dX5_told_83 (by decide) ?_
        refine lv_goto (tgt := 88) hx hb dX5_told_84 (by decide) ?_
        exact L88 (1 : Int32) S h H locs hP hD hS ls (lv_sub hl [0, 1, 2, 3] rfl)
    · replace h := And.right h c52
      refine lv_aload_n hx hb dX5_told_55 rfl (lv_at hl 0 rfl) ?_
      refine lv_iload hx hb dX5_told_56 (lv_at hl 4 rfl) ?_
      refine zc_if (ws' := fun u => (bX5 ah cy u)) (va_runV (As := [.int x4]) (rest := []) ⟨hx, hb, hml, hown, htB⟩ (c_X5_no l D cy ah H.size x4 S h) (cwV 1 htB (zgV zm_261 zm_264 zm_265 zm_263 zm_262) rfl rfl rfl hd_X5_no ⟨Nat.le_of_ble_eq_true rfl, Nat.le_of_ble_eq_true rfl⟩) ⟨zM_blind, va_recv hK hP (ci := 5) (q0 := 0) rfl rfl, zM_pre hP hK hN hD⟩ rfl rfl hl.1 rfl (lv_room (Nat.le_of_ble_eq_true rfl)) dX5_told_58 ⟨Nat.zero_le _, Nat.zero_le _⟩) hS hA hP hD (fun u => rfl) (fun u => rfl) (fun r58 u H locs h hP hD hS => ?_)
      obtain ⟨S_58, eu⟩ : ∃ z, z = u := ⟨_, rfl⟩
      subst eu
      replace hP : va_P D zCl (bX5 ah cy S_58) H := hP
      replace hD : va_D A (bX5 ah cy S_58) := hD
      exact W.iret (v := r58) hx hb hr (fun t ht hW => ⟨⟨_, S_58, rfl, h, zP_h ht hP⟩, hS.F ht⟩) hS.2.2 dX5_told_61
  have L27 : ∀ (x4 : Int32) (S : zT), wpb_X5_told_27 i1 i2 i3 Q x4 S → ∀ (H : Heap) (locs : List Loc), va_P D zCl (bX5 ah cy S) H → va_D A (bX5 ah cy S) → va_S A s.heap H locs → ∀ ls : Array Slot, lv_has ls 6 [(0, .ref (ah 99)), (1, .int i1), (2, .int i2), (3, .int i3), (4, .int x4)] → W p l e rm_X5_told s m ([.ref (ah 99), .int i1, .int i2, .int i3] : List Value).toArray below meth c H locs 0 0 (MQ below (va_Qi (S := zT) (fun (r : Int32) (u : zT) => Q r u) (fun u t => va_P D zCl ((fun (u : zT) => (bX5 ah cy u)) u) t.heap) A) ([.ref (ah 99), .int i1, .int i2, .int i3] : List Value).toArray s 0 0 A) (F0 m 27 ls []) := by
    intro x4 S h H locs hP hD hS ls hl
    refine lv_iload hx hb dX5_told_27 (lv_at hl 4 rfl) ?_
    refine lv_if_ne (tgt := 50) hx hb dX5_told_29 (by decide) (fun c29 => ?_) (fun c29 => ?_)
    · replace h := And.right h c29
      exact L50 x4 S h H locs hP hD hS ls (lv_sub hl [0, 1, 2, 3, 4] rfl)
    · replace h := And.left h c29
      refine lv_aload_n hx hb dX5_told_32 rfl (lv_at hl 0 rfl) ?_
      refine va_get (D := D) (ci := 5) (v := .ref (ah 8)) (C := RX5) (T := TX5) (N := 41) hx hb htB ziX5 hown hK hP 0 rfl rfl 8 (by decide) (htB _ zm_307) (fun _ h9 => h9) rfl dX5_told_33 ?_
      refine lv_iconst (v := (4 : Int32)) hx hb dX5_told_36 (by decide) ?_
      refine va_iald (D := D) hx hb hK hP 9 0 rfl rfl (And.left h) dX5_told_37 ?_
      replace h := And.right h
      refine lv_iconst (v := (1 : Int32)) hx hb dX5_told_38 (by decide) ?_
      refine lv_iconst (v := (3 : Int32)) hx hb dX5_told_39 (by decide) ?_
      have hPc : va_P D zCl ([] : va_W) H := hP.sub [] rfl
      refine zc_r (va_runS (As := [.int (S 8 (4 : Int32).toNatClampNeg), .int (1 : Int32), .int (3 : Int32)]) (rest := []) ⟨hx, hb, hml, hown, htB⟩ (c_X5_isIn l D cy  (S 8 (4 : Int32).toNatClampNeg) (1 : Int32) (3 : Int32) h) (cwS 3 htB (zgS zm_275 zm_277 zm_263 zm_276) rfl rfl rfl hd_X5_isIn ⟨Nat.le_of_ble_eq_true rfl, Nat.le_of_ble_eq_true rfl⟩) ⟨zR_blind, zR_pre hPc hK hN⟩ rfl rfl hl.1 rfl (lv_room (Nat.le_of_ble_eq_true rfl)) dX5_told_40 ⟨Nat.zero_le _, Nat.zero_le _⟩) (fun r40 h => ?_)
      refine lv_if_ne (tgt := 50) hx hb dX5_told_43 (by decide) (fun c43 => ?_) (fun c43 => ?_)
      · replace h := And.right h c43
        exact L50 x4 S h H locs hP hD hS ls (lv_sub hl [0, 1, 2, 3, 4] rfl)
      · replace h := And.left h c43
        refine lv_bipush (v := (-3 : Int32)) hx hb dX5_told_46 (by decide) ?_
        refine lv_istore (lv' := [(4, .int (-3 : Int32)), (0, .ref (ah 99)), (1, .int i1), (2, .int i2), (3, .int i3)]) hx hb dX5_told_48 hl (by decide) rfl (fun ls hl => ?_)
        exact L50 (-3 : Int32) S h H locs hP hD hS ls (lv_sub hl [1, 2, 3, 4, 0] rfl)
  refine lv_iload_n hx hb dX5_told_0 rfl (lv_at hl 1 rfl) ?_
  refine lv_iload_n hx hb dX5_told_1 rfl (lv_at hl 2 rfl) ?_
  refine lv_iload_n hx hb dX5_told_2 rfl (lv_at hl 3 rfl) ?_
  refine lv_iconst (v := (0 : Int32)) hx hb dX5_told_3 (by decide) ?_
  have hPc : va_P D zCl ([] : va_W) H := hP.sub [] rfl
  refine zc_r (va_runS (As := [.int i1, .int i2, .int i3, .int (0 : Int32)]) (rest := []) ⟨hx, hb, hml, hown, htB⟩ (c_X5_notFilm l D cy  i1 i2 i3 (0 : Int32) h) (cwS 4 htB (zgS zm_425 zm_427 zm_263 zm_426) rfl rfl rfl hd_X5_notFilm ⟨Nat.le_of_ble_eq_true rfl, Nat.le_of_ble_eq_true rfl⟩) ⟨zR_blind, zR_pre hPc hK hN⟩ rfl rfl hl.1 rfl (lv_room (Nat.le_of_ble_eq_true rfl)) dX5_told_4 ⟨Nat.zero_le _, Nat.zero_le _⟩) (fun r4 h => ?_)
  refine lv_istore (lv' := [(4, .int r4), (0, .ref (ah 99)), (1, .int i1), (2, .int i2), (3, .int i3)]) hx hb dX5_told_7 hl (by decide) rfl (fun ls hl => ?_)
  refine lv_iload hx hb dX5_told_9 (lv_at hl 0 rfl) ?_
  refine lv_if_ne (tgt := 27) hx hb dX5_told_11 (by decide) (fun c11 => ?_) (fun c11 => ?_)
  · replace h := And.right h c11
    exact L27 r4 S h H locs hP hD hS ls (lv_sub hl [1, 2, 3, 4, 0] rfl)
  · replace h := And.left h c11
    refine lv_aload_n hx hb dX5_told_14 rfl (lv_at hl 1 rfl) ?_
    refine va_get (D := D) (ci := 5) (v := .int (S 14 0)) (C := RX5) (T := TX5) (N := 41) hx hb htB ziX5 hown hK hP 0 rfl rfl 14 (by decide) (htB _ zm_327) (fun _ h9 => h9) rfl dX5_told_15 ?_
    refine lv_bipush (v := (10 : Int32)) hx hb dX5_told_18 (by decide) ?_
    refine lv_icmp_ne (tgt := 27) hx hb dX5_told_20 (by decide) (fun c20 => ?_) (fun c20 => ?_)
    · replace h := And.right h c20
      exact L27 r4 S h H locs hP hD hS ls (lv_sub hl [1, 2, 3, 4, 0] rfl)
    · replace h := And.left h c20
      refine lv_bipush (v := (-6 : Int32)) hx hb dX5_told_23 (by decide) ?_
      refine lv_istore (lv' := [(4, .int (-6 : Int32)), (0, .ref (ah 99)), (1, .int i1), (2, .int i2), (3, .int i3)]) hx hb dX5_told_25 hl (by decide) rfl (fun ls hl => ?_)
      exact L27 (-6 : Int32) S h H locs hP hD hS ls (lv_sub hl [1, 2, 3, 4, 0] rfl)
set_option maxHeartbeats 4000000 in
set_option maxRecDepth 100000 in
theorem c_X5_doFit (l : Launch) (D : va_G) (cy : ClassId) (ah : Nat → Nat) (S : zT) (i1 : Int32) (i2 : Int32) {Q : Int32 → Prop} (h : wp_X5_doFit S i1 i2 Q) : Met l yX5_doFit w_X5_doFit rm_X5_doFit (va_Pc [.ref (ah 99), .int i1, .int i2] (zR D cy (bX5 ah cy S))) (vp_Si Q) 0 0 (fun _ => False) := by
  refine zOf_r (by decide) (Nat.le_of_ble_eq_true rfl) ?_
  intro p e s m below meth c ls hx hb hr hml hown htB hlocks hK hN hP hl
  replace hl : lv_has ls 5 [(0, .ref (ah 99)), (1, .int i1), (2, .int i2)] := hl
  have L2 : ∀ (k2 : Nat) (x3 : Int32), wpl_X5_doFit_2 S i1 i2 Q k2 x3 → ∀ ls : Array Slot, lv_has ls 5 [(0, .ref (ah 99)), (1, .int i1), (2, .int i2), (3, .int x3)] → W p l e rm_X5_doFit s m ([.ref (ah 99), .int i1, .int i2] : List Value).toArray below meth c s.heap [] 0 0 (MQ below (vp_Si Q) ([.ref (ah 99), .int i1, .int i2] : List Value).toArray s 0 0 (fun _ => False)) (F0 m 2 ls []) := by
    intro k2
    induction k2 with
    | zero => exact fun x3 h => False.elim h
    | succ k2 ih2 =>
      have L60 : ∀ (x3 : Int32) (t0 : Int32) (t1 : Int32), wpb_X5_doFit_60 S i1 i2 Q (wpl_X5_doFit_2 S i1 i2 Q k2) x3 t0 t1 → ∀ ls : Array Slot, lv_has ls 5 [(0, .ref (ah 99)), (1, .int i1), (2, .int i2), (3, .int x3)] → W p l e rm_X5_doFit s m ([.ref (ah 99), .int i1, .int i2] : List Value).toArray below meth c s.heap [] 0 0 (MQ below (vp_Si Q) ([.ref (ah 99), .int i1, .int i2] : List Value).toArray s 0 0 (fun _ => False)) (F0 m 60 ls [.int t1, .int t0]) := by
        intro x3 t0 t1 h ls hl
        refine lv_icmp_eq (tgt := 65) hx hb dX5_doFit_60 (by decide) (fun c60 => ?_) (fun c60 => ?_)
        · replace h := And.left h c60
          obtain ⟨y65, ey65⟩ : ∃ z : Int32, z = (x3 + (1 : Int32)) := ⟨_, rfl⟩
          replace h := h y65 ey65
          refine lv_iinc (v := y65) (lv' := [(3, .int y65), (0, .ref (ah 99)), (1, .int i1), (2, .int i2)]) hx hb dX5_doFit_65 hl (k := 3) rfl (by rw [ey65]; rfl) (by decide) rfl (fun ls hl => ?_)
          refine lv_goto (tgt := 2) hx hb dX5_doFit_68 (by decide) ?_
          exact ih2 y65 h ls (lv_sub hl [1, 2, 3, 0] rfl)
        · replace h := And.right h c60
          refine lv_iconst (v := (0 : Int32)) hx hb dX5_doFit_63 (by decide) ?_
          exact W.zret (v := (0 : Int32)) hx hb hr rfl (fun t ht hW => ⟨_, rfl, h, ht⟩) (fun q hq => by cases hq) dX5_doFit_64
      have L41 : ∀ (x3 : Int32) (t0 : Int32), wpb_X5_doFit_41 S i1 i2 Q (wpl_X5_doFit_2 S i1 i2 Q k2) x3 t0 → ∀ ls : Array Slot, lv_has ls 5 [(0, .ref (ah 99)), (1, .int i1), (2, .int i2), (3, .int x3)] → W p l e rm_X5_doFit s m ([.ref (ah 99), .int i1, .int i2] : List Value).toArray below meth c s.heap [] 0 0 (MQ below (vp_Si Q) ([.ref (ah 99), .int i1, .int i2] : List Value).toArray s 0 0 (fun _ => False)) (F0 m 41 ls [.int t0]) := by
        intro x3 t0 h ls hl
        refine lv_istore (lv' := [(4, .int t0), (0, .ref (ah 99)), (1, .int i1), (2, .int i2), (3, .int x3)]) hx hb dX5_doFit_41 hl (by decide) rfl (fun ls hl => ?_)
        refine lv_iload hx hb dX5_doFit_43 (lv_at hl 0 rfl) ?_
        refine lv_aload_n hx hb dX5_doFit_45 rfl (lv_at hl 1 rfl) ?_
        refine va_get (D := D) (ci := 5) (v := .ref (ah 12)) (C := RX5) (T := TX5) (N := 41) hx hb htB ziX5 hown hK hP 0 rfl rfl 12 (by decide) (htB _ zm_322) (fun _ h9 => h9) rfl dX5_doFit_46 ?_
        refine lv_iload_n hx hb dX5_doFit_49 rfl (lv_at hl 4 rfl) ?_
        refine va_iald (D := D) hx hb hK hP 13 0 rfl rfl (And.left h) dX5_doFit_50 ?_
        replace h := And.right h
        refine lv_iconst (v := (1 : Int32)) hx hb dX5_doFit_51 (by decide) ?_
        refine lv_icmp_ne (tgt := 59) hx hb dX5_doFit_52 (by decide) (fun c52 => ?_) (fun c52 => ?_)
        · replace h := And.right h c52
          refine lv_iconst (v := (0 : Int32)) hx hb dX5_doFit_59 (by decide) ?_
          exact L60 x3 t0 (0 : Int32) h ls (lv_sub hl [1, 2, 3, 4] rfl)
        · replace h := And.left h c52
          refine lv_iconst (v := (1 : Int32)) hx hb dX5_doFit_55 (by decide) ?_
          refine lv_goto (tgt := 60) hx hb dX5_doFit_56 (by decide) ?_
          exact L60 x3 t0 (1 : Int32) h ls (lv_sub hl [1, 2, 3, 4] rfl)
      intro x3 h ls hl
      refine lv_iload_n hx hb dX5_doFit_2 rfl (lv_at hl 3 rfl) ?_
      refine lv_aload_n hx hb dX5_doFit_3 rfl (lv_at hl 0 rfl) ?_
      refine va_get (D := D) (ci := 5) (v := .int (S 14 0)) (C := RX5) (T := TX5) (N := 41) hx hb htB ziX5 hown hK hP 0 rfl rfl 14 (by decide) (htB _ zm_327) (fun _ h9 => h9) rfl dX5_doFit_4 ?_
      refine lv_icmp_ge (tgt := 71) hx hb dX5_doFit_7 (by decide) (fun c7 => ?_) (fun c7 => ?_)
      · replace h := And.left h c7
        refine lv_iconst (v := (1 : Int32)) hx hb dX5_doFit_71 (by decide) ?_
        exact W.zret (v := (1 : Int32)) hx hb hr rfl (fun t ht hW => ⟨_, rfl, h, ht⟩) (fun q hq => by cases hq) dX5_doFit_72
      · replace h := And.right h c7
        refine lv_aload_n hx hb dX5_doFit_10 rfl (lv_at hl 0 rfl) ?_
        refine va_get (D := D) (ci := 5) (v := .ref (ah 9)) (C := RX5) (T := TX5) (N := 41) hx hb htB ziX5 hown hK hP 0 rfl rfl 9 (by decide) (htB _ zm_319) (fun _ h9 => h9) rfl dX5_doFit_11 ?_
        refine lv_iload_n hx hb dX5_doFit_14 rfl (lv_at hl 3 rfl) ?_
        refine va_iald (D := D) hx hb hK hP 10 0 rfl rfl (And.left h) dX5_doFit_15 ?_
        replace h := And.right h
        refine lv_iload_n hx hb dX5_doFit_16 rfl (lv_at hl 1 rfl) ?_
        refine lv_iload_n hx hb dX5_doFit_17 rfl (lv_at hl 2 rfl) ?_
        refine lv_aload_n hx hb dX5_doFit_18 rfl (lv_at hl 0 rfl) ?_
        refine va_get (D := D) (ci := 5) (v := .ref (ah 10)) (C := RX5) (T := TX5) (N := 41) hx hb htB ziX5 hown hK hP 0 rfl rfl 10 (by decide) (htB _ zm_320) (fun _ h9 => h9) rfl dX5_doFit_19 ?_
        refine lv_iload_n hx hb dX5_doFit_22 rfl (lv_at hl 3 rfl) ?_
        refine va_iald (D := D) hx hb hK hP 11 0 rfl rfl (And.left h) dX5_doFit_23 ?_
        replace h := And.right h
        refine lv_aload_n hx hb dX5_doFit_24 rfl (lv_at hl 0 rfl) ?_
        refine va_get (D := D) (ci := 5) (v := .ref (ah 11)) (C := RX5) (T := TX5) (N := 41) hx hb htB ziX5 hown hK hP 0 rfl rfl 11 (by decide) (htB _ zm_321) (fun _ h9 => h9) rfl dX5_doFit_25 ?_
        refine lv_iload_n hx hb dX5_doFit_28 rfl (lv_at hl 3 rfl) ?_
        refine va_iald (D := D) hx hb hK hP 12 0 rfl rfl (And.left h) dX5_doFit_29 ?_
        replace h := And.right h
        have hPc : va_P D zCl ([] : va_W) s.heap := hP.sub [] rfl
        refine zc_r (va_runS (As := [.int i1, .int i2, .int (S 10 x3.toNatClampNeg), .int (S 11 x3.toNatClampNeg)]) (rest := [.int (S 9 x3.toNatClampNeg)]) ⟨hx, hb, hml, hown, htB⟩ (c_X5_filmFar l D cy  i1 i2 (S 10 x3.toNatClampNeg) (S 11 x3.toNatClampNeg) h) (cwS 4 htB (zgS zm_428 zm_430 zm_263 zm_429) rfl rfl rfl hd_X5_filmFar ⟨Nat.le_of_ble_eq_true rfl, Nat.le_of_ble_eq_true rfl⟩) ⟨zR_blind, zR_pre hPc hK hN⟩ rfl rfl hl.1 rfl (lv_room (Nat.le_of_ble_eq_true rfl)) dX5_doFit_30 ⟨Nat.zero_le _, Nat.zero_le _⟩) (fun r30 h => ?_)
        refine lv_icmp_gt (tgt := 40) hx hb dX5_doFit_33 (by decide) (fun c33 => ?_) (fun c33 => ?_)
        · replace h := And.left h c33
          refine lv_iconst (v := (0 : Int32)) hx hb dX5_doFit_40 (by decide) ?_
          exact L41 x3 (0 : Int32) h ls (lv_sub hl [0, 1, 2, 3] rfl)
        · replace h := And.right h c33
          refine lv_iconst (v := (1 : Int32)) hx hb dX5_doFit_36 (by decide) ?_
          refine lv_goto (tgt := 41) hx hb dX5_doFit_37 (by decide) ?_
          exact L41 x3 (1 : Int32) h ls (lv_sub hl [0, 1, 2, 3] rfl)
  refine lv_iconst (v := (0 : Int32)) hx hb dX5_doFit_0 (by decide) ?_
  refine lv_istore_n (lv' := [(3, .int (0 : Int32)), (0, .ref (ah 99)), (1, .int i1), (2, .int i2)]) hx hb dX5_doFit_1 rfl hl (by decide) rfl (fun ls hl => ?_)
  obtain ⟨nn, h⟩ := h
  exact L2 nn (0 : Int32) h ls (lv_sub hl [1, 2, 3, 0] rfl)
set_option maxHeartbeats 4000000 in
set_option maxRecDepth 100000 in
theorem c_X5_fitting (l : Launch) (D : va_G) (cy : ClassId) (ah : Nat → Nat) (sz : Nat) (i1 : Int32) (i2 : Int32) (S : zT) {Q : Int32 → zT → Prop} (h : wp_X5_fitting i1 i2 S Q) : Met l yX5_fitting w_X5_fitting rm_X5_fitting (va_Pc [.ref (ah 99), .int i1, .int i2] (zM D cy (bX5 ah cy S) sz)) (va_Qi (S := zT) (fun (r : Int32) (u : zT) => Q r u) (fun u t => va_P D zCl ((fun (u : zT) => (bX5 ah cy u)) u) t.heap) (va_A (bX5 ah cy S) sz)) 0 0 (va_A (bX5 ah cy S) sz) := by
  refine zOf_i (by decide) (Nat.le_of_ble_eq_true rfl) ?_
  intro p e s m below meth c ls A H locs hx hb hr hml hown htB hlocks hK hN hP hD hS hA hl
  replace hl : lv_has ls 7 [(0, .ref (ah 99)), (1, .int i1), (2, .int i2)] := hl
  have L85 : ∀ (x3 : Int32) (x4 : Int32) (x5 : Int32) (S : zT), wpb_X5_fitting_85 i1 i2 Q x3 x4 x5 S → ∀ (H : Heap) (locs : List Loc), va_P D zCl (bX5 ah cy S) H → va_D A (bX5 ah cy S) → va_S A s.heap H locs → ∀ ls : Array Slot, lv_has ls 7 [(0, .ref (ah 99)), (2, .int i2), (3, .int x3), (4, .int x4), (5, .int x5)] → W p l e rm_X5_fitting s m ([.ref (ah 99), .int i1, .int i2] : List Value).toArray below meth c H locs 0 0 (MQ below (va_Qi (S := zT) (fun (r : Int32) (u : zT) => Q r u) (fun u t => va_P D zCl ((fun (u : zT) => (bX5 ah cy u)) u) t.heap) A) ([.ref (ah 99), .int i1, .int i2] : List Value).toArray s 0 0 A) (F0 m 85 ls []) := by
    intro x3 x4 x5 S h H locs hP hD hS ls hl
    refine lv_iload_n hx hb dX5_fitting_85 rfl (lv_at hl 1 rfl) ?_
    refine lv_if_ne (tgt := 93) hx hb dX5_fitting_86 (by decide) (fun c86 => ?_) (fun c86 => ?_)
    · replace h := And.right h c86
      refine lv_iload_n hx hb dX5_fitting_93 rfl (lv_at hl 1 rfl) ?_
      refine lv_iconst (v := (1 : Int32)) hx hb dX5_fitting_94 (by decide) ?_
      refine lv_icmp_ne (tgt := 103) hx hb dX5_fitting_95 (by decide) (fun c95 => ?_) (fun c95 => ?_)
      · replace h := And.right h c95
        refine lv_iload hx hb dX5_fitting_103 (lv_at hl 4 rfl) ?_
        exact W.iret (v := x5) hx hb hr (fun t ht hW => ⟨⟨_, S, rfl, h, zP_h ht hP⟩, hS.F ht⟩) hS.2.2 dX5_fitting_105
      · replace h := And.left h c95
        refine lv_iload hx hb dX5_fitting_98 (lv_at hl 3 rfl) ?_
        refine lv_goto (tgt := 105) hx hb dX5_fitting_100 (by decide) ?_
        exact W.iret (v := x4) hx hb hr (fun t ht hW => ⟨⟨_, S, rfl, h, zP_h ht hP⟩, hS.F ht⟩) hS.2.2 dX5_fitting_105
    · replace h := And.left h c86
      refine lv_iload_n hx hb dX5_fitting_89 rfl (lv_at hl 2 rfl) ?_
      refine lv_goto (tgt := 105) hx hb dX5_fitting_90 (by decide) ?_
      exact W.iret (v := x3) hx hb hr (fun t ht hW => ⟨⟨_, S, rfl, h, zP_h ht hP⟩, hS.F ht⟩) hS.2.2 dX5_fitting_105
  have L38 : ∀ (k38 : Nat) (x3 : Int32) (x4 : Int32) (x5 : Int32) (x6 : Int32) (S : zT), wpl_X5_fitting_38 i1 i2 Q k38 x3 x4 x5 x6 S → ∀ (H : Heap) (locs : List Loc), va_P D zCl (bX5 ah cy S) H → va_D A (bX5 ah cy S) → va_S A s.heap H locs → ∀ ls : Array Slot, lv_has ls 7 [(0, .ref (ah 99)), (1, .int i1), (2, .int i2), (3, .int x3), (4, .int x4), (5, .int x5), (6, .int x6)] → W p l e rm_X5_fitting s m ([.ref (ah 99), .int i1, .int i2] : List Value).toArray below meth c H locs 0 0 (MQ below (va_Qi (S := zT) (fun (r : Int32) (u : zT) => Q r u) (fun u t => va_P D zCl ((fun (u : zT) => (bX5 ah cy u)) u) t.heap) A) ([.ref (ah 99), .int i1, .int i2] : List Value).toArray s 0 0 A) (F0 m 38 ls []) := by
    intro k38
    induction k38 with
    | zero => exact fun x3 x4 x5 x6 S h => False.elim h
    | succ k38 ih38 =>
      have L79 : ∀ (x3 : Int32) (x4 : Int32) (x5 : Int32) (x6 : Int32) (S : zT), wpb_X5_fitting_79 i1 i2 Q (wpl_X5_fitting_38 i1 i2 Q k38) x3 x4 x5 x6 S → ∀ (H : Heap) (locs : List Loc), va_P D zCl (bX5 ah cy S) H → va_D A (bX5 ah cy S) → va_S A s.heap H locs → ∀ ls : Array Slot, lv_has ls 7 [(0, .ref (ah 99)), (1, .int i1), (2, .int i2), (3, .int x3), (4, .int x4), (5, .int x5), (6, .int x6)] → W p l e rm_X5_fitting s m ([.ref (ah 99), .int i1, .int i2] : List Value).toArray below meth c H locs 0 0 (MQ below (va_Qi (S := zT) (fun (r : Int32) (u : zT) => Q r u) (fun u t => va_P D zCl ((fun (u : zT) => (bX5 ah cy u)) u) t.heap) A) ([.ref (ah 99), .int i1, .int i2] : List Value).toArray s 0 0 A) (F0 m 79 ls []) := by
        intro x3 x4 x5 x6 S h H locs hP hD hS ls hl
        obtain ⟨y79, ey79⟩ : ∃ z : Int32, z = (x6 + (1 : Int32)) := ⟨_, rfl⟩
        replace h := h y79 ey79
        refine lv_iinc (v := y79) (lv' := [(6, .int y79), (0, .ref (ah 99)), (1, .int i1), (2, .int i2), (3, .int x3), (4, .int x4), (5, .int x5)]) hx hb dX5_fitting_79 hl (k := 6) rfl (by rw [ey79]; rfl) (by decide) rfl (fun ls hl => ?_)
        refine lv_goto (tgt := 38) hx hb dX5_fitting_82 (by decide) ?_
        exact ih38 x3 x4 x5 y79 S h H locs hP hD hS ls (lv_sub hl [1, 2, 3, 4, 5, 6, 0] rfl)
      have L73 : ∀ (x3 : Int32) (x6 : Int32) (t0 : Int32) (S : zT), wpb_X5_fitting_73 i1 i2 Q (wpl_X5_fitting_38 i1 i2 Q k38) x3 x6 t0 S → ∀ (H : Heap) (locs : List Loc), va_P D zCl (bX5 ah cy S) H → va_D A (bX5 ah cy S) → va_S A s.heap H locs → ∀ ls : Array Slot, lv_has ls 7 [(0, .ref (ah 99)), (1, .int i1), (2, .int i2), (3, .int x3), (6, .int x6)] → W p l e rm_X5_fitting s m ([.ref (ah 99), .int i1, .int i2] : List Value).toArray below meth c H locs 0 0 (MQ below (va_Qi (S := zT) (fun (r : Int32) (u : zT) => Q r u) (fun u t => va_P D zCl ((fun (u : zT) => (bX5 ah cy u)) u) t.heap) A) ([.ref (ah 99), .int i1, .int i2] : List Value).toArray s 0 0 A) (F0 m 73 ls [.int t0]) := by
        intro x3 x6 t0 S h H locs hP hD hS ls hl
        refine lv_istore (lv' := [(4, .int t0), (0, .ref (ah 99)), (1, .int i1), (2, .int i2), (3, .int x3), (6, .int x6)]) hx hb dX5_fitting_73 hl (by decide) rfl (fun ls hl => ?_)
        refine lv_iload hx hb dX5_fitting_75 (lv_at hl 5 rfl) ?_
        refine lv_istore (lv' := [(5, .int x6), (4, .int t0), (0, .ref (ah 99)), (1, .int i1), (2, .int i2), (3, .int x3), (6, .int x6)]) hx hb dX5_fitting_77 hl (by decide) rfl (fun ls hl => ?_)
        exact L79 x3 t0 x6 x6 S h H locs hP hD hS ls (lv_sub hl [2, 3, 4, 5, 1, 0, 6] rfl)
      intro x3 x4 x5 x6 S h H locs hP hD hS ls hl
      refine lv_iload hx hb dX5_fitting_38 (lv_at hl 6 rfl) ?_
      refine lv_bipush (v := (40 : Int32)) hx hb dX5_fitting_40 (by decide) ?_
      refine lv_icmp_gt (tgt := 85) hx hb dX5_fitting_42 (by decide) (fun c42 => ?_) (fun c42 => ?_)
      · replace h := And.left h c42
        exact L85 x3 x4 x5 S h H locs hP hD hS ls (lv_sub hl [0, 2, 3, 4, 5] rfl)
      · replace h := And.right h c42
        refine lv_aload_n hx hb dX5_fitting_45 rfl (lv_at hl 0 rfl) ?_
        refine lv_iload_n hx hb dX5_fitting_46 rfl (lv_at hl 1 rfl) ?_
        refine lv_iload hx hb dX5_fitting_47 (lv_at hl 6 rfl) ?_
        refine zc_r (va_runV (As := [.int i1, .int x6]) (rest := []) ⟨hx, hb, hml, hown, htB⟩ (c_X5_doFit l D cy ah S i1 x6 h) (cwV 2 htB (zgV zm_431 zm_433 zm_434 zm_263 zm_432) rfl rfl rfl hd_X5_doFit ⟨Nat.le_of_ble_eq_true rfl, Nat.le_of_ble_eq_true rfl⟩) ⟨zR_blind, va_recv hK hP (ci := 5) (q0 := 0) rfl rfl, zR_pre hP hK hN⟩ rfl rfl hl.1 rfl (lv_room (Nat.le_of_ble_eq_true rfl)) dX5_fitting_49 ⟨Nat.zero_le _, Nat.zero_le _⟩) (fun r49 h => ?_)
        refine lv_if_ne (tgt := 58) hx hb dX5_fitting_52 (by decide) (fun c52 => ?_) (fun c52 => ?_)
        · replace h := And.right h c52
          obtain ⟨y58, ey58⟩ : ∃ z : Int32, z = (x3 + (1 : Int32)) := ⟨_, rfl⟩
          replace h := h y58 ey58
          refine lv_iinc (v := y58) (lv' := [(3, .int y58), (0, .ref (ah 99)), (1, .int i1), (2, .int i2), (4, .int x4), (5, .int x5), (6, .int x6)]) hx hb dX5_fitting_58 hl (k := 3) rfl (by rw [ey58]; rfl) (by decide) rfl (fun ls hl => ?_)
          refine lv_iload hx hb dX5_fitting_61 (lv_at hl 4 rfl) ?_
          refine lv_if_ge (tgt := 71) hx hb dX5_fitting_63 (by decide) (fun c63 => ?_) (fun c63 => ?_)
          · replace h := And.left h c63
            refine lv_iload hx hb dX5_fitting_71 (lv_at hl 4 rfl) ?_
            exact L73 y58 x6 x4 S h H locs hP hD hS ls (lv_sub hl [1, 2, 3, 0, 6] rfl)
          · replace h := And.right h c63
            refine lv_iload hx hb dX5_fitting_66 (lv_at hl 6 rfl) ?_
            refine lv_goto (tgt := 73) hx hb dX5_fitting_68 (by decide) ?_
            exact L73 y58 x6 x6 S h H locs hP hD hS ls (lv_sub hl [1, 2, 3, 0, 6] rfl)
        · replace h := And.left h c52
          refine lv_goto (tgt := 79) hx hb dX5_fitting_55 (by decide) ?_
          exact L79 x3 x4 x5 x6 S h H locs hP hD hS ls (lv_sub hl [0, 1, 2, 3, 4, 5, 6] rfl)
  have L18 : ∀ (S : zT), wpb_X5_fitting_18 i1 i2 Q S → ∀ (H : Heap) (locs : List Loc), va_P D zCl (bX5 ah cy S) H → va_D A (bX5 ah cy S) → va_S A s.heap H locs → ∀ ls : Array Slot, lv_has ls 7 [(0, .ref (ah 99))] → W p l e rm_X5_fitting s m ([.ref (ah 99), .int i1, .int i2] : List Value).toArray below meth c H locs 0 0 (MQ below (va_Qi (S := zT) (fun (r : Int32) (u : zT) => Q r u) (fun u t => va_P D zCl ((fun (u : zT) => (bX5 ah cy u)) u) t.heap) A) ([.ref (ah 99), .int i1, .int i2] : List Value).toArray s 0 0 A) (F0 m 18 ls []) := by
    intro S h H locs hP hD hS ls hl
    refine lv_aload_n hx hb dX5_fitting_18 rfl (lv_at hl 0 rfl) ?_
    refine lv_bipush (v := (-2 : Int32)) hx hb dX5_fitting_19 (by decide) ?_
    refine zc_if (ws' := fun u => (bX5 ah cy u)) (va_runV (As := [.int (-2 : Int32)]) (rest := []) ⟨hx, hb, hml, hown, htB⟩ (c_X5_no l D cy ah H.size (-2 : Int32) S h) (cwV 1 htB (zgV zm_261 zm_264 zm_265 zm_263 zm_262) rfl rfl rfl hd_X5_no ⟨Nat.le_of_ble_eq_true rfl, Nat.le_of_ble_eq_true rfl⟩) ⟨zM_blind, va_recv hK hP (ci := 5) (q0 := 0) rfl rfl, zM_pre hP hK hN hD⟩ rfl rfl hl.1 rfl (lv_room (Nat.le_of_ble_eq_true rfl)) dX5_fitting_21 ⟨Nat.zero_le _, Nat.zero_le _⟩) hS hA hP hD (fun u => rfl) (fun u => rfl) (fun r21 u H locs h hP hD hS => ?_)
    obtain ⟨S_21, eu⟩ : ∃ z, z = u := ⟨_, rfl⟩
    subst eu
    replace hP : va_P D zCl (bX5 ah cy S_21) H := hP
    replace hD : va_D A (bX5 ah cy S_21) := hD
    exact W.iret (v := r21) hx hb hr (fun t ht hW => ⟨⟨_, S_21, rfl, h, zP_h ht hP⟩, hS.F ht⟩) hS.2.2 dX5_fitting_24
  refine lv_iload_n hx hb dX5_fitting_0 rfl (lv_at hl 1 rfl) ?_
  refine lv_iconst (v := (1 : Int32)) hx hb dX5_fitting_1 (by decide) ?_
  refine lv_iconst (v := (3 : Int32)) hx hb dX5_fitting_2 (by decide) ?_
  have hPc : va_P D zCl ([] : va_W) H := hP.sub [] rfl
  refine zc_r (va_runS (As := [.int i1, .int (1 : Int32), .int (3 : Int32)]) (rest := []) ⟨hx, hb, hml, hown, htB⟩ (c_X5_isIn l D cy  i1 (1 : Int32) (3 : Int32) h) (cwS 3 htB (zgS zm_275 zm_277 zm_263 zm_276) rfl rfl rfl hd_X5_isIn ⟨Nat.le_of_ble_eq_true rfl, Nat.le_of_ble_eq_true rfl⟩) ⟨zR_blind, zR_pre hPc hK hN⟩ rfl rfl hl.1 rfl (lv_room (Nat.le_of_ble_eq_true rfl)) dX5_fitting_3 ⟨Nat.zero_le _, Nat.zero_le _⟩) (fun r3 h => ?_)
  refine lv_if_eq (tgt := 18) hx hb dX5_fitting_6 (by decide) (fun c6 => ?_) (fun c6 => ?_)
  · replace h := And.left h c6
    exact L18 S h H locs hP hD hS ls (lv_sub hl [0] rfl)
  · replace h := And.right h c6
    refine lv_iload_n hx hb dX5_fitting_9 rfl (lv_at hl 2 rfl) ?_
    refine lv_iconst (v := (0 : Int32)) hx hb dX5_fitting_10 (by decide) ?_
    refine lv_iconst (v := (2 : Int32)) hx hb dX5_fitting_11 (by decide) ?_
    have hPc : va_P D zCl ([] : va_W) H := hP.sub [] rfl
    refine zc_r (va_runS (As := [.int i2, .int (0 : Int32), .int (2 : Int32)]) (rest := []) ⟨hx, hb, hml, hown, htB⟩ (c_X5_isIn l D cy  i2 (0 : Int32) (2 : Int32) h) (cwS 3 htB (zgS zm_275 zm_277 zm_263 zm_276) rfl rfl rfl hd_X5_isIn ⟨Nat.le_of_ble_eq_true rfl, Nat.le_of_ble_eq_true rfl⟩) ⟨zR_blind, zR_pre hPc hK hN⟩ rfl rfl hl.1 rfl (lv_room (Nat.le_of_ble_eq_true rfl)) dX5_fitting_12 ⟨Nat.zero_le _, Nat.zero_le _⟩) (fun r12 h => ?_)
    refine lv_if_ne (tgt := 25) hx hb dX5_fitting_15 (by decide) (fun c15 => ?_) (fun c15 => ?_)
    · replace h := And.right h c15
      refine lv_iconst (v := (0 : Int32)) hx hb dX5_fitting_25 (by decide) ?_
      refine lv_istore_n (lv' := [(3, .int (0 : Int32)), (0, .ref (ah 99)), (1, .int i1), (2, .int i2)]) hx hb dX5_fitting_26 rfl hl (by decide) rfl (fun ls hl => ?_)
      refine lv_bipush (v := (-9 : Int32)) hx hb dX5_fitting_27 (by decide) ?_
      refine lv_istore (lv' := [(4, .int (-9 : Int32)), (3, .int (0 : Int32)), (0, .ref (ah 99)), (1, .int i1), (2, .int i2)]) hx hb dX5_fitting_29 hl (by decide) rfl (fun ls hl => ?_)
      refine lv_bipush (v := (-9 : Int32)) hx hb dX5_fitting_31 (by decide) ?_
      refine lv_istore (lv' := [(5, .int (-9 : Int32)), (4, .int (-9 : Int32)), (3, .int (0 : Int32)), (0, .ref (ah 99)), (1, .int i1), (2, .int i2)]) hx hb dX5_fitting_33 hl (by decide) rfl (fun ls hl => ?_)
      refine lv_iconst (v := (0 : Int32)) hx hb dX5_fitting_35 (by decide) ?_
      refine lv_istore (lv' := [(6, .int (0 : Int32)), (5, .int (-9 : Int32)), (4, .int (-9 : Int32)), (3, .int (0 : Int32)), (0, .ref (ah 99)), (1, .int i1), (2, .int i2)]) hx hb dX5_fitting_36 hl (by decide) rfl (fun ls hl => ?_)
      obtain ⟨nn, h⟩ := h
      exact L38 nn (0 : Int32) (-9 : Int32) (-9 : Int32) (0 : Int32) S h H locs hP hD hS ls (lv_sub hl [4, 5, 6, 3, 2, 1, 0] rfl)
    · replace h := And.left h c15
      exact L18 S h H locs hP hD hS ls (lv_sub hl [0] rfl)
set_option maxHeartbeats 4000000 in
set_option maxRecDepth 100000 in
theorem c_X5_seeds (l : Launch) (D : va_G) (cy : ClassId) (ah : Nat → Nat) (sz : Nat) (i1 : Int32) (i2 : Int32) (S : zT) {Q : Int32 → zT → Prop} (h : wp_X5_seeds i1 i2 S Q) : Met l yX5_seeds w_X5_seeds rm_X5_seeds (va_Pc [.ref (ah 99), .int i1, .int i2] (zM D cy (bX5 ah cy S) sz)) (va_Qi (S := zT) (fun (r : Int32) (u : zT) => Q r u) (fun u t => va_P D zCl ((fun (u : zT) => (bX5 ah cy u)) u) t.heap) (va_A (bX5 ah cy S) sz)) 0 0 (va_A (bX5 ah cy S) sz) := by
  refine zOf_i (by decide) (Nat.le_of_ble_eq_true rfl) ?_
  intro p e s m below meth c ls A H locs hx hb hr hml hown htB hlocks hK hN hP hD hS hA hl
  replace hl : lv_has ls 8 [(0, .ref (ah 99)), (1, .int i1), (2, .int i2)] := hl
  have L107 : ∀ (x5 : Int32) (S : zT), wpb_X5_seeds_107 i1 i2 Q x5 S → ∀ (H : Heap) (locs : List Loc), va_P D zCl (bX5 ah cy S) H → va_D A (bX5 ah cy S) → va_S A s.heap H locs → ∀ ls : Array Slot, lv_has ls 8 [(0, .ref (ah 99)), (5, .int x5)] → W p l e rm_X5_seeds s m ([.ref (ah 99), .int i1, .int i2] : List Value).toArray below meth c H locs 0 0 (MQ below (va_Qi (S := zT) (fun (r : Int32) (u : zT) => Q r u) (fun u t => va_P D zCl ((fun (u : zT) => (bX5 ah cy u)) u) t.heap) A) ([.ref (ah 99), .int i1, .int i2] : List Value).toArray s 0 0 A) (F0 m 107 ls []) := by
    intro x5 S h H locs hP hD hS ls hl
    refine lv_aload_n hx hb dX5_seeds_107 rfl (lv_at hl 0 rfl) ?_
    refine lv_iconst (v := (1 : Int32)) hx hb dX5_seeds_108 (by decide) ?_
    refine lv_iconst (v := (0 : Int32)) hx hb dX5_seeds_109 (by decide) ?_
    refine zc_vf (ws' := fun u => (bX5 ah cy u)) (va_runV (As := [.int (1 : Int32), .int (0 : Int32)]) (rest := []) ⟨hx, hb, hml, hown, htB⟩ (c_X5_passesAll l D cy ah H.size (1 : Int32) (0 : Int32) S h) (cwV 2 htB (zgV zm_328 zm_330 zm_331 zm_263 zm_329) rfl rfl rfl hd_X5_passesAll ⟨Nat.le_of_ble_eq_true rfl, Nat.le_of_ble_eq_true rfl⟩) ⟨zM_blind, va_recv hK hP (ci := 5) (q0 := 0) rfl rfl, zM_pre hP hK hN hD⟩ rfl rfl hl.1 rfl (lv_room (Nat.le_of_ble_eq_true rfl)) dX5_seeds_110 ⟨Nat.zero_le _, Nat.zero_le _⟩) hS hA hP hD (fun u => rfl) (fun u => rfl) (fun u H locs h hP hD hS => ?_)
    obtain ⟨S_110, eu⟩ : ∃ z, z = u := ⟨_, rfl⟩
    subst eu
    replace hP : va_P D zCl (bX5 ah cy S_110) H := hP
    replace hD : va_D A (bX5 ah cy S_110) := hD
    refine lv_iload hx hb dX5_seeds_113 (lv_at hl 1 rfl) ?_
    exact W.iret (v := x5) hx hb hr (fun t ht hW => ⟨⟨_, S_110, rfl, h, zP_h ht hP⟩, hS.F ht⟩) hS.2.2 dX5_seeds_115
  have L33 : ∀ (k33 : Nat) (x4 : Int32) (x5 : Int32) (x6 : Int32) (S : zT), wpl_X5_seeds_33 i1 i2 Q k33 x4 x5 x6 S → ∀ (H : Heap) (locs : List Loc), va_P D zCl (bX5 ah cy S) H → va_D A (bX5 ah cy S) → va_S A s.heap H locs → ∀ ls : Array Slot, lv_has ls 8 [(0, .ref (ah 99)), (1, .int i1), (4, .int x4), (5, .int x5), (6, .int x6)] → W p l e rm_X5_seeds s m ([.ref (ah 99), .int i1, .int i2] : List Value).toArray below meth c H locs 0 0 (MQ below (va_Qi (S := zT) (fun (r : Int32) (u : zT) => Q r u) (fun u t => va_P D zCl ((fun (u : zT) => (bX5 ah cy u)) u) t.heap) A) ([.ref (ah 99), .int i1, .int i2] : List Value).toArray s 0 0 A) (F0 m 33 ls []) := by
    intro k33
    induction k33 with
    | zero => exact fun x4 x5 x6 S h => False.elim h
    | succ k33 ih33 =>
      have L88 : ∀ (x4 : Int32) (x5 : Int32) (x6 : Int32) (S : zT), wpb_X5_seeds_88 i1 i2 Q (wpl_X5_seeds_33 i1 i2 Q k33) x4 x5 x6 S → ∀ (H : Heap) (locs : List Loc), va_P D zCl (bX5 ah cy S) H → va_D A (bX5 ah cy S) → va_S A s.heap H locs → ∀ ls : Array Slot, lv_has ls 8 [(0, .ref (ah 99)), (1, .int i1), (4, .int x4), (5, .int x5), (6, .int x6)] → W p l e rm_X5_seeds s m ([.ref (ah 99), .int i1, .int i2] : List Value).toArray below meth c H locs 0 0 (MQ below (va_Qi (S := zT) (fun (r : Int32) (u : zT) => Q r u) (fun u t => va_P D zCl ((fun (u : zT) => (bX5 ah cy u)) u) t.heap) A) ([.ref (ah 99), .int i1, .int i2] : List Value).toArray s 0 0 A) (F0 m 88 ls []) := by
        intro x4 x5 x6 S h H locs hP hD hS ls hl
        refine lv_aload_n hx hb dX5_seeds_88 rfl (lv_at hl 0 rfl) ?_
        refine zc_vf (ws' := fun u => (bX5 ah cy u)) (va_runV (As := []) (rest := []) ⟨hx, hb, hml, hown, htB⟩ (c_X5_goesAll l D cy ah H.size S h) (cwV 0 htB (zgV zm_400 zm_402 zm_403 zm_263 zm_401) rfl rfl rfl hd_X5_goesAll ⟨Nat.le_of_ble_eq_true rfl, Nat.le_of_ble_eq_true rfl⟩) ⟨zM_blind, va_recv hK hP (ci := 5) (q0 := 0) rfl rfl, zM_pre hP hK hN hD⟩ rfl rfl hl.1 rfl (lv_room (Nat.le_of_ble_eq_true rfl)) dX5_seeds_89 ⟨Nat.zero_le _, Nat.zero_le _⟩) hS hA hP hD (fun u => rfl) (fun u => rfl) (fun u H locs h hP hD hS => ?_)
        obtain ⟨S_89, eu⟩ : ∃ z, z = u := ⟨_, rfl⟩
        subst eu
        replace hP : va_P D zCl (bX5 ah cy S_89) H := hP
        replace hD : va_D A (bX5 ah cy S_89) := hD
        refine lv_iload hx hb dX5_seeds_92 (lv_at hl 3 rfl) ?_
        refine lv_aload_n hx hb dX5_seeds_94 rfl (lv_at hl 0 rfl) ?_
        refine zc_r (va_runV (As := []) (rest := [.int x5]) ⟨hx, hb, hml, hown, htB⟩ (c_X5_heldMany l D cy ah S_89 h) (cwV 0 htB (zgV zm_408 zm_410 zm_411 zm_263 zm_409) rfl rfl rfl hd_X5_heldMany ⟨Nat.le_of_ble_eq_true rfl, Nat.le_of_ble_eq_true rfl⟩) ⟨zR_blind, va_recv hK hP (ci := 5) (q0 := 0) rfl rfl, zR_pre hP hK hN⟩ rfl rfl hl.1 rfl (lv_room (Nat.le_of_ble_eq_true rfl)) dX5_seeds_95 ⟨Nat.zero_le _, Nat.zero_le _⟩) (fun r95 h => ?_)
        refine lv_iadd hx hb dX5_seeds_98 ?_
        refine lv_topi (fun y99 ey99 => ?_)
        replace h := h y99 ey99
        refine lv_istore (lv' := [(5, .int y99), (0, .ref (ah 99)), (1, .int i1), (4, .int x4), (6, .int x6)]) hx hb dX5_seeds_99 hl (by decide) rfl (fun ls hl => ?_)
        obtain ⟨y101, ey101⟩ : ∃ z : Int32, z = (x6 + (1 : Int32)) := ⟨_, rfl⟩
        replace h := h y101 ey101
        refine lv_iinc (v := y101) (lv' := [(6, .int y101), (5, .int y99), (0, .ref (ah 99)), (1, .int i1), (4, .int x4)]) hx hb dX5_seeds_101 hl (k := 4) rfl (by rw [ey101]; rfl) (by decide) rfl (fun ls hl => ?_)
        refine lv_goto (tgt := 33) hx hb dX5_seeds_104 (by decide) ?_
        exact ih33 x4 y99 y101 S_89 h H locs hP hD hS ls (lv_sub hl [2, 3, 4, 1, 0] rfl)
      have L42 : ∀ (k42 : Nat) (x4 : Int32) (x5 : Int32) (x6 : Int32) (x7 : Int32) (S : zT), wpl_X5_seeds_42 i1 i2 Q (wpl_X5_seeds_33 i1 i2 Q k33) k42 x4 x5 x6 x7 S → ∀ (H : Heap) (locs : List Loc), va_P D zCl (bX5 ah cy S) H → va_D A (bX5 ah cy S) → va_S A s.heap H locs → ∀ ls : Array Slot, lv_has ls 8 [(0, .ref (ah 99)), (1, .int i1), (4, .int x4), (5, .int x5), (6, .int x6), (7, .int x7)] → W p l e rm_X5_seeds s m ([.ref (ah 99), .int i1, .int i2] : List Value).toArray below meth c H locs 0 0 (MQ below (va_Qi (S := zT) (fun (r : Int32) (u : zT) => Q r u) (fun u t => va_P D zCl ((fun (u : zT) => (bX5 ah cy u)) u) t.heap) A) ([.ref (ah 99), .int i1, .int i2] : List Value).toArray s 0 0 A) (F0 m 42 ls []) := by
        intro k42
        induction k42 with
        | zero => exact fun x4 x5 x6 x7 S h => False.elim h
        | succ k42 ih42 =>
          intro x4 x5 x6 x7 S h H locs hP hD hS ls hl
          refine lv_iload hx hb dX5_seeds_42 (lv_at hl 5 rfl) ?_
          refine lv_aload_n hx hb dX5_seeds_44 rfl (lv_at hl 0 rfl) ?_
          refine va_get (D := D) (ci := 5) (v := .int (S 13 0)) (C := RX5) (T := TX5) (N := 41) hx hb htB ziX5 hown hK hP 0 rfl rfl 13 (by decide) (htB _ zm_258) (fun _ h9 => h9) rfl dX5_seeds_45 ?_
          refine lv_icmp_ge (tgt := 88) hx hb dX5_seeds_48 (by decide) (fun c48 => ?_) (fun c48 => ?_)
          · replace h := And.left h c48
            exact L88 x4 x5 x6 S h H locs hP hD hS ls (lv_sub hl [0, 1, 2, 3, 4] rfl)
          · replace h := And.right h c48
            refine lv_iload hx hb dX5_seeds_51 (lv_at hl 2 rfl) ?_
            refine lv_ldcw (v := (1664525 : Int32)) hx hb hown (htB _ zm_435) dX5_seeds_53 ?_
            refine lv_imul hx hb dX5_seeds_56 ?_
            refine lv_ldcw (v := (1013904223 : Int32)) hx hb hown (htB _ zm_436) dX5_seeds_57 ?_
            refine lv_iadd hx hb dX5_seeds_60 ?_
            refine lv_topi (fun y61 ey61 => ?_)
            replace h := h y61 ey61
            refine lv_istore (lv' := [(4, .int y61), (0, .ref (ah 99)), (1, .int i1), (5, .int x5), (6, .int x6), (7, .int x7)]) hx hb dX5_seeds_61 hl (by decide) rfl (fun ls hl => ?_)
            refine lv_aload_n hx hb dX5_seeds_63 rfl (lv_at hl 1 rfl) ?_
            refine va_get (D := D) (ci := 5) (v := .ref (ah 6)) (C := RX5) (T := TX5) (N := 41) hx hb htB ziX5 hown hK hP 0 rfl rfl 6 (by decide) (htB _ zm_305) (fun _ h9 => h9) rfl dX5_seeds_64 ?_
            refine lv_iload hx hb dX5_seeds_67 (lv_at hl 5 rfl) ?_
            refine lv_iload hx hb dX5_seeds_69 (lv_at hl 0 rfl) ?_
            refine lv_ldcw (v := (2147483647 : Int32)) hx hb hown (htB _ zm_437) dX5_seeds_71 ?_
            refine lv_iand hx hb dX5_seeds_74 ?_
            refine lv_sipush (v := (256 : Int32)) hx hb dX5_seeds_75 (by decide) ?_
            refine lv_idiv hx hb dX5_seeds_78 (And.left h) ?_
            replace h := And.right h
            refine lv_iconst (v := (2 : Int32)) hx hb dX5_seeds_79 (by decide) ?_
            refine lv_irem hx hb dX5_seeds_80 (And.left h) ?_
            replace h := And.right h
            refine va_iast (D := D) hx hb hK hP hD hS 7 0 rfl rfl (And.left h) dX5_seeds_81 (fun H locs hP hD hS => ?_)
            replace h := And.right h
            obtain ⟨S_81, eS_81⟩ : ∃ z : zT, z = (va_up S 6 (upd (S 6) x7.toNatClampNeg (((y61 &&& (2147483647 : Int32)) / (256 : Int32)) - ((y61 &&& (2147483647 : Int32)) / (256 : Int32)) / (2 : Int32) * (2 : Int32)))) := ⟨_, rfl⟩
            replace h := h S_81 eS_81
            replace hP : va_P D zCl (bX5 ah cy S_81) H := by rw [eS_81]; exact hP
            replace hD : va_D A (bX5 ah cy S_81) := by rw [eS_81]; exact hD
            obtain ⟨y82, ey82⟩ : ∃ z : Int32, z = (x7 + (1 : Int32)) := ⟨_, rfl⟩
            replace h := h y82 ey82
            refine lv_iinc (v := y82) (lv' := [(7, .int y82), (4, .int y61), (0, .ref (ah 99)), (1, .int i1), (5, .int x5), (6, .int x6)]) hx hb dX5_seeds_82 hl (k := 5) rfl (by rw [ey82]; rfl) (by decide) rfl (fun ls hl => ?_)
            refine lv_goto (tgt := 42) hx hb dX5_seeds_85 (by decide) ?_
            exact ih42 y61 x5 x6 y82 S_81 h H locs hP hD hS ls (lv_sub hl [2, 3, 1, 4, 5, 0] rfl)
      intro x4 x5 x6 S h H locs hP hD hS ls hl
      refine lv_iload hx hb dX5_seeds_33 (lv_at hl 4 rfl) ?_
      refine lv_iload_n hx hb dX5_seeds_35 rfl (lv_at hl 1 rfl) ?_
      refine lv_icmp_ge (tgt := 107) hx hb dX5_seeds_36 (by decide) (fun c36 => ?_) (fun c36 => ?_)
      · replace h := And.left h c36
        exact L107 x5 S h H locs hP hD hS ls (lv_sub hl [0, 3] rfl)
      · replace h := And.right h c36
        refine lv_iconst (v := (0 : Int32)) hx hb dX5_seeds_39 (by decide) ?_
        refine lv_istore (lv' := [(7, .int (0 : Int32)), (0, .ref (ah 99)), (1, .int i1), (4, .int x4), (5, .int x5), (6, .int x6)]) hx hb dX5_seeds_40 hl (by decide) rfl (fun ls hl => ?_)
        obtain ⟨nn, h⟩ := h
        exact L42 nn x4 x5 x6 (0 : Int32) S h H locs hP hD hS ls (lv_sub hl [1, 2, 3, 4, 5, 0] rfl)
  refine lv_iload_n hx hb dX5_seeds_0 rfl (lv_at hl 1 rfl) ?_
  refine lv_iconst (v := (1 : Int32)) hx hb dX5_seeds_1 (by decide) ?_
  refine lv_bipush (v := (20 : Int32)) hx hb dX5_seeds_2 (by decide) ?_
  have hPc : va_P D zCl ([] : va_W) H := hP.sub [] rfl
  refine zc_r (va_runS (As := [.int i1, .int (1 : Int32), .int (20 : Int32)]) (rest := []) ⟨hx, hb, hml, hown, htB⟩ (c_X5_bound l D cy  i1 (1 : Int32) (20 : Int32) h) (cwS 3 htB (zgS zm_266 zm_268 zm_263 zm_267) rfl rfl rfl hd_X5_bound ⟨Nat.le_of_ble_eq_true rfl, Nat.le_of_ble_eq_true rfl⟩) ⟨zR_blind, zR_pre hPc hK hN⟩ rfl rfl hl.1 rfl (lv_room (Nat.le_of_ble_eq_true rfl)) dX5_seeds_4 ⟨Nat.zero_le _, Nat.zero_le _⟩) (fun r4 h => ?_)
  refine lv_istore_n (lv' := [(3, .int r4), (0, .ref (ah 99)), (1, .int i1), (2, .int i2)]) hx hb dX5_seeds_7 rfl hl (by decide) rfl (fun ls hl => ?_)
  refine lv_iload_n hx hb dX5_seeds_8 rfl (lv_at hl 0 rfl) ?_
  refine lv_if_eq (tgt := 18) hx hb dX5_seeds_9 (by decide) (fun c9 => ?_) (fun c9 => ?_)
  · replace h := And.left h c9
    refine lv_aload_n hx hb dX5_seeds_18 rfl (lv_at hl 1 rfl) ?_
    refine lv_iconst (v := (1 : Int32)) hx hb dX5_seeds_19 (by decide) ?_
    refine lv_iconst (v := (1 : Int32)) hx hb dX5_seeds_20 (by decide) ?_
    refine zc_vf (ws' := fun u => (bX5 ah cy u)) (va_runV (As := [.int (1 : Int32), .int (1 : Int32)]) (rest := []) ⟨hx, hb, hml, hown, htB⟩ (c_X5_passesAll l D cy ah H.size (1 : Int32) (1 : Int32) S h) (cwV 2 htB (zgV zm_328 zm_330 zm_331 zm_263 zm_329) rfl rfl rfl hd_X5_passesAll ⟨Nat.le_of_ble_eq_true rfl, Nat.le_of_ble_eq_true rfl⟩) ⟨zM_blind, va_recv hK hP (ci := 5) (q0 := 0) rfl rfl, zM_pre hP hK hN hD⟩ rfl rfl hl.1 rfl (lv_room (Nat.le_of_ble_eq_true rfl)) dX5_seeds_21 ⟨Nat.zero_le _, Nat.zero_le _⟩) hS hA hP hD (fun u => rfl) (fun u => rfl) (fun u H locs h hP hD hS => ?_)
    obtain ⟨S_21, eu⟩ : ∃ z, z = u := ⟨_, rfl⟩
    subst eu
    replace hP : va_P D zCl (bX5 ah cy S_21) H := hP
    replace hD : va_D A (bX5 ah cy S_21) := hD
    refine lv_iload_n hx hb dX5_seeds_24 rfl (lv_at hl 3 rfl) ?_
    refine lv_istore (lv' := [(4, .int i2), (3, .int r4), (0, .ref (ah 99)), (1, .int i1), (2, .int i2)]) hx hb dX5_seeds_25 hl (by decide) rfl (fun ls hl => ?_)
    refine lv_iconst (v := (0 : Int32)) hx hb dX5_seeds_27 (by decide) ?_
    refine lv_istore (lv' := [(5, .int (0 : Int32)), (4, .int i2), (3, .int r4), (0, .ref (ah 99)), (1, .int i1), (2, .int i2)]) hx hb dX5_seeds_28 hl (by decide) rfl (fun ls hl => ?_)
    refine lv_iconst (v := (0 : Int32)) hx hb dX5_seeds_30 (by decide) ?_
    refine lv_istore (lv' := [(6, .int (0 : Int32)), (5, .int (0 : Int32)), (4, .int i2), (3, .int r4), (0, .ref (ah 99)), (1, .int i1), (2, .int i2)]) hx hb dX5_seeds_31 hl (by decide) rfl (fun ls hl => ?_)
    obtain ⟨nn, h⟩ := h
    exact L33 nn i2 (0 : Int32) (0 : Int32) S_21 h H locs hP hD hS ls (lv_sub hl [4, 5, 2, 1, 0] rfl)
  · replace h := And.right h c9
    refine lv_aload_n hx hb dX5_seeds_12 rfl (lv_at hl 1 rfl) ?_
    refine lv_iload_n hx hb dX5_seeds_13 rfl (lv_at hl 0 rfl) ?_
    refine zc_if (ws' := fun u => (bX5 ah cy u)) (va_runV (As := [.int r4]) (rest := []) ⟨hx, hb, hml, hown, htB⟩ (c_X5_no l D cy ah H.size r4 S h) (cwV 1 htB (zgV zm_261 zm_264 zm_265 zm_263 zm_262) rfl rfl rfl hd_X5_no ⟨Nat.le_of_ble_eq_true rfl, Nat.le_of_ble_eq_true rfl⟩) ⟨zM_blind, va_recv hK hP (ci := 5) (q0 := 0) rfl rfl, zM_pre hP hK hN hD⟩ rfl rfl hl.1 rfl (lv_room (Nat.le_of_ble_eq_true rfl)) dX5_seeds_14 ⟨Nat.zero_le _, Nat.zero_le _⟩) hS hA hP hD (fun u => rfl) (fun u => rfl) (fun r14 u H locs h hP hD hS => ?_)
    obtain ⟨S_14, eu⟩ : ∃ z, z = u := ⟨_, rfl⟩
    subst eu
    replace hP : va_P D zCl (bX5 ah cy S_14) H := hP
    replace hD : va_D A (bX5 ah cy S_14) := hD
    exact W.iret (v := r14) hx hb hr (fun t ht hW => ⟨⟨_, S_14, rfl, h, zP_h ht hP⟩, hS.F ht⟩) hS.2.2 dX5_seeds_17
set_option maxHeartbeats 4000000 in
set_option maxRecDepth 100000 in
theorem c_X5_row (l : Launch) (D : va_G) (cy : ClassId) (ah : Nat → Nat) (sz : Nat) (i1 : Int32) (S : zT) {Q : Int32 → zT → Prop} (h : wp_X5_row i1 S Q) : Met l yX5_row w_X5_row rm_X5_row (va_Pc [.ref (ah 99), .int i1] (zM D cy (bX5 ah cy S) sz)) (va_Qi (S := zT) (fun (r : Int32) (u : zT) => Q r u) (fun u t => va_P D zCl ((fun (u : zT) => (bX5 ah cy u)) u) t.heap) (va_A (bX5 ah cy S) sz)) 0 0 (va_A (bX5 ah cy S) sz) := by
  refine zOf_i (by decide) (Nat.le_of_ble_eq_true rfl) ?_
  intro p e s m below meth c ls A H locs hx hb hr hml hown htB hlocks hK hN hP hD hS hA hl
  replace hl : lv_has ls 3 [(0, .ref (ah 99)), (1, .int i1)] := hl
  have L24 : ∀ (x2 : Int32) (S : zT), wpb_X5_row_24 i1 Q x2 S → ∀ (H : Heap) (locs : List Loc), va_P D zCl (bX5 ah cy S) H → va_D A (bX5 ah cy S) → va_S A s.heap H locs → ∀ ls : Array Slot, lv_has ls 3 [(0, .ref (ah 99)), (1, .int i1), (2, .int x2)] → W p l e rm_X5_row s m ([.ref (ah 99), .int i1] : List Value).toArray below meth c H locs 0 0 (MQ below (va_Qi (S := zT) (fun (r : Int32) (u : zT) => Q r u) (fun u t => va_P D zCl ((fun (u : zT) => (bX5 ah cy u)) u) t.heap) A) ([.ref (ah 99), .int i1] : List Value).toArray s 0 0 A) (F0 m 24 ls []) := by
    intro x2 S h H locs hP hD hS ls hl
    refine lv_iload_n hx hb dX5_row_24 rfl (lv_at hl 2 rfl) ?_
    refine lv_if_eq (tgt := 34) hx hb dX5_row_25 (by decide) (fun c25 => ?_) (fun c25 => ?_)
    · replace h := And.left h c25
      refine lv_aload_n hx hb dX5_row_34 rfl (lv_at hl 0 rfl) ?_
      refine va_get (D := D) (ci := 5) (v := .ref (ah 39)) (C := RX5) (T := TX5) (N := 41) hx hb htB ziX5 hown hK hP 0 rfl rfl 39 (by decide) (htB _ zm_438) (fun _ h9 => h9) rfl dX5_row_35 ?_
      refine lv_aload_n hx hb dX5_row_38 rfl (lv_at hl 0 rfl) ?_
      refine va_get (D := D) (ci := 5) (v := .int (S 40 0)) (C := RX5) (T := TX5) (N := 41) hx hb htB ziX5 hown hK hP 0 rfl rfl 40 (by decide) (htB _ zm_439) (fun _ h9 => h9) rfl dX5_row_39 ?_
      refine lv_iload_n hx hb dX5_row_42 rfl (lv_at hl 1 rfl) ?_
      refine va_iast (D := D) hx hb hK hP hD hS 29 0 rfl rfl (And.left h) dX5_row_43 (fun H locs hP hD hS => ?_)
      replace h := And.right h
      obtain ⟨S_43, eS_43⟩ : ∃ z : zT, z = (va_up S 39 (upd (S 39) (S 40 0).toNatClampNeg i1)) := ⟨_, rfl⟩
      replace h := h S_43 eS_43
      replace hP : va_P D zCl (bX5 ah cy S_43) H := by rw [eS_43]; exact hP
      replace hD : va_D A (bX5 ah cy S_43) := by rw [eS_43]; exact hD
      refine lv_aload_n hx hb dX5_row_44 rfl (lv_at hl 0 rfl) ?_
      refine lv_dup hx hb dX5_row_45 rfl ?_
      refine va_get (D := D) (ci := 5) (v := .int (S_43 40 0)) (C := RX5) (T := TX5) (N := 41) hx hb htB ziX5 hown hK hP 0 rfl rfl 40 (by decide) (htB _ zm_439) (fun _ h9 => h9) rfl dX5_row_46 ?_
      refine lv_iconst (v := (1 : Int32)) hx hb dX5_row_49 (by decide) ?_
      refine lv_iadd hx hb dX5_row_50 ?_
      refine va_put (D := D) (ci := 5) (v := .int ((S_43 40 0) + (1 : Int32))) (ty := .int) (C := RX5) (T := TX5) (N := 41) hx hb htB ziX5 tyX5 tyX5_ok nmX5 hown hK hP hD hS 0 rfl rfl 40 (by decide) (htB _ zm_439) (fun _ h9 => h9) rfl (tyX5_ok 40 (by decide)) rfl rfl (Nat.le_of_ble_eq_true rfl) dX5_row_51 (fun H locs hP hD hS => ?_)
      obtain ⟨S_51, eS_51⟩ : ∃ z : zT, z = (va_up S_43 40 (fun _ => ((S_43 40 0) + (1 : Int32)))) := ⟨_, rfl⟩
      replace h := h S_51 eS_51
      replace hP : va_P D zCl (bX5 ah cy S_51) H := by rw [eS_51]; exact hP
      replace hD : va_D A (bX5 ah cy S_51) := by rw [eS_51]; exact hD
      refine lv_aload_n hx hb dX5_row_54 rfl (lv_at hl 0 rfl) ?_
      refine va_get (D := D) (ci := 5) (v := .int (S_51 40 0)) (C := RX5) (T := TX5) (N := 41) hx hb htB ziX5 hown hK hP 0 rfl rfl 40 (by decide) (htB _ zm_439) (fun _ h9 => h9) rfl dX5_row_55 ?_
      exact W.iret (v := (S_51 40 0)) hx hb hr (fun t ht hW => ⟨⟨_, S_51, rfl, h, zP_h ht hP⟩, hS.F ht⟩) hS.2.2 dX5_row_58
    · replace h := And.right h c25
      refine lv_aload_n hx hb dX5_row_28 rfl (lv_at hl 0 rfl) ?_
      refine lv_iload_n hx hb dX5_row_29 rfl (lv_at hl 2 rfl) ?_
      refine zc_if (ws' := fun u => (bX5 ah cy u)) (va_runV (As := [.int x2]) (rest := []) ⟨hx, hb, hml, hown, htB⟩ (c_X5_no l D cy ah H.size x2 S h) (cwV 1 htB (zgV zm_261 zm_264 zm_265 zm_263 zm_262) rfl rfl rfl hd_X5_no ⟨Nat.le_of_ble_eq_true rfl, Nat.le_of_ble_eq_true rfl⟩) ⟨zM_blind, va_recv hK hP (ci := 5) (q0 := 0) rfl rfl, zM_pre hP hK hN hD⟩ rfl rfl hl.1 rfl (lv_room (Nat.le_of_ble_eq_true rfl)) dX5_row_30 ⟨Nat.zero_le _, Nat.zero_le _⟩) hS hA hP hD (fun u => rfl) (fun u => rfl) (fun r30 u H locs h hP hD hS => ?_)
      obtain ⟨S_30, eu⟩ : ∃ z, z = u := ⟨_, rfl⟩
      subst eu
      replace hP : va_P D zCl (bX5 ah cy S_30) H := hP
      replace hD : va_D A (bX5 ah cy S_30) := hD
      exact W.iret (v := r30) hx hb hr (fun t ht hW => ⟨⟨_, S_30, rfl, h, zP_h ht hP⟩, hS.F ht⟩) hS.2.2 dX5_row_33
  refine lv_iload_n hx hb dX5_row_0 rfl (lv_at hl 1 rfl) ?_
  refine lv_iconst (v := (0 : Int32)) hx hb dX5_row_1 (by decide) ?_
  refine lv_bipush (v := (9 : Int32)) hx hb dX5_row_2 (by decide) ?_
  have hPc : va_P D zCl ([] : va_W) H := hP.sub [] rfl
  refine zc_r (va_runS (As := [.int i1, .int (0 : Int32), .int (9 : Int32)]) (rest := []) ⟨hx, hb, hml, hown, htB⟩ (c_X5_bound l D cy  i1 (0 : Int32) (9 : Int32) h) (cwS 3 htB (zgS zm_266 zm_268 zm_263 zm_267) rfl rfl rfl hd_X5_bound ⟨Nat.le_of_ble_eq_true rfl, Nat.le_of_ble_eq_true rfl⟩) ⟨zR_blind, zR_pre hPc hK hN⟩ rfl rfl hl.1 rfl (lv_room (Nat.le_of_ble_eq_true rfl)) dX5_row_4 ⟨Nat.zero_le _, Nat.zero_le _⟩) (fun r4 h => ?_)
  refine lv_istore_n (lv' := [(2, .int r4), (0, .ref (ah 99)), (1, .int i1)]) hx hb dX5_row_7 rfl hl (by decide) rfl (fun ls hl => ?_)
  refine lv_iload_n hx hb dX5_row_8 rfl (lv_at hl 0 rfl) ?_
  refine lv_if_ne (tgt := 24) hx hb dX5_row_9 (by decide) (fun c9 => ?_) (fun c9 => ?_)
  · replace h := And.right h c9
    exact L24 r4 S h H locs hP hD hS ls (lv_sub hl [1, 2, 0] rfl)
  · replace h := And.left h c9
    refine lv_aload_n hx hb dX5_row_12 rfl (lv_at hl 1 rfl) ?_
    refine va_get (D := D) (ci := 5) (v := .int (S 40 0)) (C := RX5) (T := TX5) (N := 41) hx hb htB ziX5 hown hK hP 0 rfl rfl 40 (by decide) (htB _ zm_439) (fun _ h9 => h9) rfl dX5_row_13 ?_
    refine lv_bipush (v := (8 : Int32)) hx hb dX5_row_16 (by decide) ?_
    refine lv_icmp_ne (tgt := 24) hx hb dX5_row_18 (by decide) (fun c18 => ?_) (fun c18 => ?_)
    · replace h := And.right h c18
      exact L24 r4 S h H locs hP hD hS ls (lv_sub hl [1, 2, 0] rfl)
    · replace h := And.left h c18
      refine lv_bipush (v := (-6 : Int32)) hx hb dX5_row_21 (by decide) ?_
      refine lv_istore_n (lv' := [(2, .int (-6 : Int32)), (0, .ref (ah 99)), (1, .int i1)]) hx hb dX5_row_23 rfl hl (by decide) rfl (fun ls hl => ?_)
      exact L24 (-6 : Int32) S h H locs hP hD hS ls (lv_sub hl [1, 2, 0] rfl)
set_option maxHeartbeats 4000000 in
set_option maxRecDepth 100000 in
theorem c_X5_judge (l : Launch) (D : va_G) (cy : ClassId) (ah : Nat → Nat) (sz : Nat) (S : zT) {Q : Int32 → zT → Prop} (h : wp_X5_judge S Q) : Met l yX5_judge w_X5_judge rm_X5_judge (va_Pc [.ref (ah 99)] (zM D cy (bX5 ah cy S) sz)) (va_Qi (S := zT) (fun (r : Int32) (u : zT) => Q r u) (fun u t => va_P D zCl ((fun (u : zT) => (bX5 ah cy u)) u) t.heap) (va_A (bX5 ah cy S) sz)) 0 0 (va_A (bX5 ah cy S) sz) := by
  refine zOf_i (by decide) (Nat.le_of_ble_eq_true rfl) ?_
  intro p e s m below meth c ls A H locs hx hb hr hml hown htB hlocks hK hN hP hD hS hA hl
  replace hl : lv_has ls 4 [(0, .ref (ah 99))] := hl
  have L61 : ∀ (x1 : Int32) (x2 : Int32) (S : zT), wpb_X5_judge_61 Q x1 x2 S → ∀ (H : Heap) (locs : List Loc), va_P D zCl (bX5 ah cy S) H → va_D A (bX5 ah cy S) → va_S A s.heap H locs → ∀ ls : Array Slot, lv_has ls 4 [(0, .ref (ah 99)), (1, .int x1), (2, .int x2)] → W p l e rm_X5_judge s m ([.ref (ah 99)] : List Value).toArray below meth c H locs 0 0 (MQ below (va_Qi (S := zT) (fun (r : Int32) (u : zT) => Q r u) (fun u t => va_P D zCl ((fun (u : zT) => (bX5 ah cy u)) u) t.heap) A) ([.ref (ah 99)] : List Value).toArray s 0 0 A) (F0 m 61 ls []) := by
    intro x1 x2 S h H locs hP hD hS ls hl
    refine lv_iload_n hx hb dX5_judge_61 rfl (lv_at hl 1 rfl) ?_
    refine lv_aload_n hx hb dX5_judge_62 rfl (lv_at hl 0 rfl) ?_
    refine va_get (D := D) (ci := 5) (v := .int (S 36 0)) (C := RX5) (T := TX5) (N := 41) hx hb htB ziX5 hown hK hP 0 rfl rfl 36 (by decide) (htB _ zm_369) (fun _ h9 => h9) rfl dX5_judge_63 ?_
    refine lv_icmp_ne (tgt := 74) hx hb dX5_judge_66 (by decide) (fun c66 => ?_) (fun c66 => ?_)
    · replace h := And.right h c66
      refine lv_iload_n hx hb dX5_judge_74 rfl (lv_at hl 2 rfl) ?_
      exact W.iret (v := x2) hx hb hr (fun t ht hW => ⟨⟨_, S, rfl, h, zP_h ht hP⟩, hS.F ht⟩) hS.2.2 dX5_judge_75
    · replace h := And.left h c66
      refine lv_bipush (v := (-9 : Int32)) hx hb dX5_judge_69 (by decide) ?_
      refine lv_goto (tgt := 75) hx hb dX5_judge_71 (by decide) ?_
      exact W.iret (v := (-9 : Int32)) hx hb hr (fun t ht hW => ⟨⟨_, S, rfl, h, zP_h ht hP⟩, hS.F ht⟩) hS.2.2 dX5_judge_75
  have L33 : ∀ (k33 : Nat) (x1 : Int32) (x2 : Int32) (x3 : Int32) (S : zT), wpl_X5_judge_33 Q k33 x1 x2 x3 S → ∀ (H : Heap) (locs : List Loc), va_P D zCl (bX5 ah cy S) H → va_D A (bX5 ah cy S) → va_S A s.heap H locs → ∀ ls : Array Slot, lv_has ls 4 [(0, .ref (ah 99)), (1, .int x1), (2, .int x2), (3, .int x3)] → W p l e rm_X5_judge s m ([.ref (ah 99)] : List Value).toArray below meth c H locs 0 0 (MQ below (va_Qi (S := zT) (fun (r : Int32) (u : zT) => Q r u) (fun u t => va_P D zCl ((fun (u : zT) => (bX5 ah cy u)) u) t.heap) A) ([.ref (ah 99)] : List Value).toArray s 0 0 A) (F0 m 33 ls []) := by
    intro k33
    induction k33 with
    | zero => exact fun x1 x2 x3 S h => False.elim h
    | succ k33 ih33 =>
      intro x1 x2 x3 S h H locs hP hD hS ls hl
      refine lv_iload_n hx hb dX5_judge_33 rfl (lv_at hl 3 rfl) ?_
      refine lv_iload_n hx hb dX5_judge_34 rfl (lv_at hl 2 rfl) ?_
      refine lv_icmp_ge (tgt := 61) hx hb dX5_judge_35 (by decide) (fun c35 => ?_) (fun c35 => ?_)
      · replace h := And.left h c35
        exact L61 x1 x2 S h H locs hP hD hS ls (lv_sub hl [0, 1, 2] rfl)
      · replace h := And.right h c35
        refine lv_aload_n hx hb dX5_judge_38 rfl (lv_at hl 0 rfl) ?_
        refine va_get (D := D) (ci := 5) (v := .ref (ah 39)) (C := RX5) (T := TX5) (N := 41) hx hb htB ziX5 hown hK hP 0 rfl rfl 39 (by decide) (htB _ zm_438) (fun _ h9 => h9) rfl dX5_judge_39 ?_
        refine lv_iload_n hx hb dX5_judge_42 rfl (lv_at hl 3 rfl) ?_
        refine va_iald (D := D) hx hb hK hP 29 0 rfl rfl (And.left h) dX5_judge_43 ?_
        replace h := And.right h
        refine lv_aload_n hx hb dX5_judge_44 rfl (lv_at hl 0 rfl) ?_
        refine va_get (D := D) (ci := 5) (v := .ref (ah 26)) (C := RX5) (T := TX5) (N := 41) hx hb htB ziX5 hown hK hP 0 rfl rfl 26 (by decide) (htB _ zm_378) (fun _ h9 => h9) rfl dX5_judge_45 ?_
        refine lv_iload_n hx hb dX5_judge_48 rfl (lv_at hl 3 rfl) ?_
        refine va_iald (D := D) hx hb hK hP 19 0 rfl rfl (And.left h) dX5_judge_49 ?_
        replace h := And.right h
        refine lv_icmp_eq (tgt := 55) hx hb dX5_judge_50 (by decide) (fun c50 => ?_) (fun c50 => ?_)
        · replace h := And.left h c50
          obtain ⟨y55, ey55⟩ : ∃ z : Int32, z = (x3 + (1 : Int32)) := ⟨_, rfl⟩
          replace h := h y55 ey55
          refine lv_iinc (v := y55) (lv' := [(3, .int y55), (0, .ref (ah 99)), (1, .int x1), (2, .int x2)]) hx hb dX5_judge_55 hl (k := 3) rfl (by rw [ey55]; rfl) (by decide) rfl (fun ls hl => ?_)
          refine lv_goto (tgt := 33) hx hb dX5_judge_58 (by decide) ?_
          exact ih33 x1 x2 y55 S h H locs hP hD hS ls (lv_sub hl [1, 2, 3, 0] rfl)
        · replace h := And.right h c50
          refine lv_iload_n hx hb dX5_judge_53 rfl (lv_at hl 3 rfl) ?_
          exact W.iret (v := x3) hx hb hr (fun t ht hW => ⟨⟨_, S, rfl, h, zP_h ht hP⟩, hS.F ht⟩) hS.2.2 dX5_judge_54
  have L30 : ∀ (x1 : Int32) (t0 : Int32) (S : zT), wpb_X5_judge_30 Q x1 t0 S → ∀ (H : Heap) (locs : List Loc), va_P D zCl (bX5 ah cy S) H → va_D A (bX5 ah cy S) → va_S A s.heap H locs → ∀ ls : Array Slot, lv_has ls 4 [(0, .ref (ah 99)), (1, .int x1)] → W p l e rm_X5_judge s m ([.ref (ah 99)] : List Value).toArray below meth c H locs 0 0 (MQ below (va_Qi (S := zT) (fun (r : Int32) (u : zT) => Q r u) (fun u t => va_P D zCl ((fun (u : zT) => (bX5 ah cy u)) u) t.heap) A) ([.ref (ah 99)] : List Value).toArray s 0 0 A) (F0 m 30 ls [.int t0]) := by
    intro x1 t0 S h H locs hP hD hS ls hl
    refine lv_istore_n (lv' := [(2, .int t0), (0, .ref (ah 99)), (1, .int x1)]) hx hb dX5_judge_30 rfl hl (by decide) rfl (fun ls hl => ?_)
    refine lv_iconst (v := (0 : Int32)) hx hb dX5_judge_31 (by decide) ?_
    refine lv_istore_n (lv' := [(3, .int (0 : Int32)), (2, .int t0), (0, .ref (ah 99)), (1, .int x1)]) hx hb dX5_judge_32 rfl hl (by decide) rfl (fun ls hl => ?_)
    obtain ⟨nn, h⟩ := h
    exact L33 nn x1 t0 (0 : Int32) S h H locs hP hD hS ls (lv_sub hl [2, 3, 1, 0] rfl)
  refine lv_aload_n hx hb dX5_judge_0 rfl (lv_at hl 0 rfl) ?_
  refine va_get (D := D) (ci := 5) (v := .int (S 40 0)) (C := RX5) (T := TX5) (N := 41) hx hb htB ziX5 hown hK hP 0 rfl rfl 40 (by decide) (htB _ zm_439) (fun _ h9 => h9) rfl dX5_judge_1 ?_
  refine lv_topi (fun y4 ey4 => ?_)
  replace h := h y4 ey4
  refine lv_istore_n (lv' := [(1, .int y4), (0, .ref (ah 99))]) hx hb dX5_judge_4 rfl hl (by decide) rfl (fun ls hl => ?_)
  refine lv_aload_n hx hb dX5_judge_5 rfl (lv_at hl 1 rfl) ?_
  refine lv_iconst (v := (0 : Int32)) hx hb dX5_judge_6 (by decide) ?_
  refine va_put (D := D) (ci := 5) (v := .int (0 : Int32)) (ty := .int) (C := RX5) (T := TX5) (N := 41) hx hb htB ziX5 tyX5 tyX5_ok nmX5 hown hK hP hD hS 0 rfl rfl 40 (by decide) (htB _ zm_439) (fun _ h9 => h9) rfl (tyX5_ok 40 (by decide)) rfl rfl (Nat.le_of_ble_eq_true rfl) dX5_judge_7 (fun H locs hP hD hS => ?_)
  obtain ⟨S_7, eS_7⟩ : ∃ z : zT, z = (va_up S 40 (fun _ => (0 : Int32))) := ⟨_, rfl⟩
  replace h := h S_7 eS_7
  replace hP : va_P D zCl (bX5 ah cy S_7) H := by rw [eS_7]; exact hP
  replace hD : va_D A (bX5 ah cy S_7) := by rw [eS_7]; exact hD
  refine lv_aload_n hx hb dX5_judge_10 rfl (lv_at hl 1 rfl) ?_
  refine zc_vf (ws' := fun u => (bX5 ah cy u)) (va_runV (As := []) (rest := []) ⟨hx, hb, hml, hown, htB⟩ (c_X5_goesAll l D cy ah H.size S_7 h) (cwV 0 htB (zgV zm_400 zm_402 zm_403 zm_263 zm_401) rfl rfl rfl hd_X5_goesAll ⟨Nat.le_of_ble_eq_true rfl, Nat.le_of_ble_eq_true rfl⟩) ⟨zM_blind, va_recv hK hP (ci := 5) (q0 := 0) rfl rfl, zM_pre hP hK hN hD⟩ rfl rfl hl.1 rfl (lv_room (Nat.le_of_ble_eq_true rfl)) dX5_judge_11 ⟨Nat.zero_le _, Nat.zero_le _⟩) hS hA hP hD (fun u => rfl) (fun u => rfl) (fun u H locs h hP hD hS => ?_)
  obtain ⟨S_11, eu⟩ : ∃ z, z = u := ⟨_, rfl⟩
  subst eu
  replace hP : va_P D zCl (bX5 ah cy S_11) H := hP
  replace hD : va_D A (bX5 ah cy S_11) := hD
  refine lv_iload_n hx hb dX5_judge_14 rfl (lv_at hl 0 rfl) ?_
  refine lv_aload_n hx hb dX5_judge_15 rfl (lv_at hl 1 rfl) ?_
  refine va_get (D := D) (ci := 5) (v := .int (S_11 36 0)) (C := RX5) (T := TX5) (N := 41) hx hb htB ziX5 hown hK hP 0 rfl rfl 36 (by decide) (htB _ zm_369) (fun _ h9 => h9) rfl dX5_judge_16 ?_
  refine lv_icmp_ge (tgt := 26) hx hb dX5_judge_19 (by decide) (fun c19 => ?_) (fun c19 => ?_)
  · replace h := And.left h c19
    refine lv_aload_n hx hb dX5_judge_26 rfl (lv_at hl 1 rfl) ?_
    refine va_get (D := D) (ci := 5) (v := .int (S_11 36 0)) (C := RX5) (T := TX5) (N := 41) hx hb htB ziX5 hown hK hP 0 rfl rfl 36 (by decide) (htB _ zm_369) (fun _ h9 => h9) rfl dX5_judge_27 ?_
    exact L30 y4 (S_11 36 0) S_11 h H locs hP hD hS ls (lv_sub hl [1, 0] rfl)
  · replace h := And.right h c19
    refine lv_iload_n hx hb dX5_judge_22 rfl (lv_at hl 0 rfl) ?_
    refine lv_goto (tgt := 30) hx hb dX5_judge_23 (by decide) ?_
    exact L30 y4 y4 S_11 h H locs hP hD hS ls (lv_sub hl [1, 0] rfl)
set_option maxHeartbeats 4000000 in
set_option maxRecDepth 100000 in
theorem c_X5_count (l : Launch) (D : va_G) (cy : ClassId) (ah : Nat → Nat) (S : zT) (i1 : Int32) {Q : Int32 → Prop} (h : wp_X5_count S i1 Q) : Met l yX5_count w_X5_count rm_X5_count (va_Pc [.ref (ah 99), .int i1] (zR D cy (bX5 ah cy S))) (vp_Si Q) 0 0 (fun _ => False) := by
  refine zOf_r (by decide) (Nat.le_of_ble_eq_true rfl) ?_
  intro p e s m below meth c ls hx hb hr hml hown htB hlocks hK hN hP hl
  replace hl : lv_has ls 2 [(0, .ref (ah 99)), (1, .int i1)] := hl
  refine lv_iload_n hx hb dX5_count_0 rfl (lv_at hl 1 rfl) ?_
  refine lv_bipush (v := (11 : Int32)) hx hb dX5_count_1 (by decide) ?_
  refine lv_bipush (v := (16 : Int32)) hx hb dX5_count_3 (by decide) ?_
  have hPc : va_P D zCl ([] : va_W) s.heap := hP.sub [] rfl
  refine zc_r (va_runS (As := [.int i1, .int (11 : Int32), .int (16 : Int32)]) (rest := []) ⟨hx, hb, hml, hown, htB⟩ (c_X5_isIn l D cy  i1 (11 : Int32) (16 : Int32) h) (cwS 3 htB (zgS zm_275 zm_277 zm_263 zm_276) rfl rfl rfl hd_X5_isIn ⟨Nat.le_of_ble_eq_true rfl, Nat.le_of_ble_eq_true rfl⟩) ⟨zR_blind, zR_pre hPc hK hN⟩ rfl rfl hl.1 rfl (lv_room (Nat.le_of_ble_eq_true rfl)) dX5_count_5 ⟨Nat.zero_le _, Nat.zero_le _⟩) (fun r5 h => ?_)
  refine lv_if_eq (tgt := 21) hx hb dX5_count_8 (by decide) (fun c8 => ?_) (fun c8 => ?_)
  · replace h := And.left h c8
    refine lv_iload_n hx hb dX5_count_21 rfl (lv_at hl 1 rfl) ?_
    by_cases c22_0 : i1 = (0 : Int32)
    · replace h := And.left h c22_0
      refine lv_tableIn (off := 50) (tgt := 72) hx hb dX5_count_22 (by rw [c22_0]; decide) (by rw [c22_0]; decide) (by rw [c22_0]; rfl) (by decide) ?_
      refine lv_aload_n hx hb dX5_count_72 rfl (lv_at hl 0 rfl) ?_
      refine va_get (D := D) (ci := 5) (v := .int (S 13 0)) (C := RX5) (T := TX5) (N := 41) hx hb htB ziX5 hown hK hP 0 rfl rfl 13 (by decide) (htB _ zm_258) (fun _ h9 => h9) rfl dX5_count_73 ?_
      exact W.iret (v := (S 13 0)) hx hb hr (fun t ht hW => ⟨_, rfl, h, ht⟩) (fun q hq => by cases hq) dX5_count_76
    · replace h := And.right h c22_0
      by_cases c22_1 : i1 = (1 : Int32)
      · replace h := And.left h c22_1
        refine lv_tableIn (off := 55) (tgt := 77) hx hb dX5_count_22 (by rw [c22_1]; decide) (by rw [c22_1]; decide) (by rw [c22_1]; rfl) (by decide) ?_
        refine lv_aload_n hx hb dX5_count_77 rfl (lv_at hl 0 rfl) ?_
        refine va_get (D := D) (ci := 5) (v := .ref (ah 8)) (C := RX5) (T := TX5) (N := 41) hx hb htB ziX5 hown hK hP 0 rfl rfl 8 (by decide) (htB _ zm_307) (fun _ h9 => h9) rfl dX5_count_78 ?_
        refine lv_iconst (v := (0 : Int32)) hx hb dX5_count_81 (by decide) ?_
        refine va_iald (D := D) hx hb hK hP 9 0 rfl rfl (And.left h) dX5_count_82 ?_
        replace h := And.right h
        exact W.iret (v := (S 8 (0 : Int32).toNatClampNeg)) hx hb hr (fun t ht hW => ⟨_, rfl, h, ht⟩) (fun q hq => by cases hq) dX5_count_83
      · replace h := And.right h c22_1
        by_cases c22_2 : i1 = (2 : Int32)
        · replace h := And.left h c22_2
          refine lv_tableIn (off := 62) (tgt := 84) hx hb dX5_count_22 (by rw [c22_2]; decide) (by rw [c22_2]; decide) (by rw [c22_2]; rfl) (by decide) ?_
          refine lv_aload_n hx hb dX5_count_84 rfl (lv_at hl 0 rfl) ?_
          refine va_get (D := D) (ci := 5) (v := .ref (ah 8)) (C := RX5) (T := TX5) (N := 41) hx hb htB ziX5 hown hK hP 0 rfl rfl 8 (by decide) (htB _ zm_307) (fun _ h9 => h9) rfl dX5_count_85 ?_
          refine lv_iconst (v := (1 : Int32)) hx hb dX5_count_88 (by decide) ?_
          refine va_iald (D := D) hx hb hK hP 9 0 rfl rfl (And.left h) dX5_count_89 ?_
          replace h := And.right h
          exact W.iret (v := (S 8 (1 : Int32).toNatClampNeg)) hx hb hr (fun t ht hW => ⟨_, rfl, h, ht⟩) (fun q hq => by cases hq) dX5_count_90
        · replace h := And.right h c22_2
          by_cases c22_3 : i1 = (3 : Int32)
          · replace h := And.left h c22_3
            refine lv_tableIn (off := 69) (tgt := 91) hx hb dX5_count_22 (by rw [c22_3]; decide) (by rw [c22_3]; decide) (by rw [c22_3]; rfl) (by decide) ?_
            refine lv_aload_n hx hb dX5_count_91 rfl (lv_at hl 0 rfl) ?_
            refine va_get (D := D) (ci := 5) (v := .ref (ah 8)) (C := RX5) (T := TX5) (N := 41) hx hb htB ziX5 hown hK hP 0 rfl rfl 8 (by decide) (htB _ zm_307) (fun _ h9 => h9) rfl dX5_count_92 ?_
            refine lv_iconst (v := (2 : Int32)) hx hb dX5_count_95 (by decide) ?_
            refine va_iald (D := D) hx hb hK hP 9 0 rfl rfl (And.left h) dX5_count_96 ?_
            replace h := And.right h
            exact W.iret (v := (S 8 (2 : Int32).toNatClampNeg)) hx hb hr (fun t ht hW => ⟨_, rfl, h, ht⟩) (fun q hq => by cases hq) dX5_count_97
          · replace h := And.right h c22_3
            by_cases c22_4 : i1 = (4 : Int32)
            · replace h := And.left h c22_4
              refine lv_tableIn (off := 76) (tgt := 98) hx hb dX5_count_22 (by rw [c22_4]; decide) (by rw [c22_4]; decide) (by rw [c22_4]; rfl) (by decide) ?_
              refine lv_aload_n hx hb dX5_count_98 rfl (lv_at hl 0 rfl) ?_
              refine va_get (D := D) (ci := 5) (v := .ref (ah 8)) (C := RX5) (T := TX5) (N := 41) hx hb htB ziX5 hown hK hP 0 rfl rfl 8 (by decide) (htB _ zm_307) (fun _ h9 => h9) rfl dX5_count_99 ?_
              refine lv_iconst (v := (4 : Int32)) hx hb dX5_count_102 (by decide) ?_
              refine va_iald (D := D) hx hb hK hP 9 0 rfl rfl (And.left h) dX5_count_103 ?_
              replace h := And.right h
              exact W.iret (v := (S 8 (4 : Int32).toNatClampNeg)) hx hb hr (fun t ht hW => ⟨_, rfl, h, ht⟩) (fun q hq => by cases hq) dX5_count_104
            · replace h := And.right h c22_4
              by_cases c22_5 : i1 = (5 : Int32)
              · replace h := And.left h c22_5
                refine lv_tableIn (off := 83) (tgt := 105) hx hb dX5_count_22 (by rw [c22_5]; decide) (by rw [c22_5]; decide) (by rw [c22_5]; rfl) (by decide) ?_
                refine lv_aload_n hx hb dX5_count_105 rfl (lv_at hl 0 rfl) ?_
                refine va_get (D := D) (ci := 5) (v := .ref (ah 8)) (C := RX5) (T := TX5) (N := 41) hx hb htB ziX5 hown hK hP 0 rfl rfl 8 (by decide) (htB _ zm_307) (fun _ h9 => h9) rfl dX5_count_106 ?_
                refine lv_iconst (v := (3 : Int32)) hx hb dX5_count_109 (by decide) ?_
                refine va_iald (D := D) hx hb hK hP 9 0 rfl rfl (And.left h) dX5_count_110 ?_
                replace h := And.right h
                exact W.iret (v := (S 8 (3 : Int32).toNatClampNeg)) hx hb hr (fun t ht hW => ⟨_, rfl, h, ht⟩) (fun q hq => by cases hq) dX5_count_111
              · replace h := And.right h c22_5
                by_cases c22_6 : i1 = (6 : Int32)
                · replace h := And.left h c22_6
                  refine lv_tableIn (off := 90) (tgt := 112) hx hb dX5_count_22 (by rw [c22_6]; decide) (by rw [c22_6]; decide) (by rw [c22_6]; rfl) (by decide) ?_
                  refine lv_aload_n hx hb dX5_count_112 rfl (lv_at hl 0 rfl) ?_
                  refine va_get (D := D) (ci := 5) (v := .int (S 14 0)) (C := RX5) (T := TX5) (N := 41) hx hb htB ziX5 hown hK hP 0 rfl rfl 14 (by decide) (htB _ zm_327) (fun _ h9 => h9) rfl dX5_count_113 ?_
                  exact W.iret (v := (S 14 0)) hx hb hr (fun t ht hW => ⟨_, rfl, h, ht⟩) (fun q hq => by cases hq) dX5_count_116
                · replace h := And.right h c22_6
                  by_cases c22_7 : i1 = (7 : Int32)
                  · replace h := And.left h c22_7
                    refine lv_tableIn (off := 95) (tgt := 117) hx hb dX5_count_22 (by rw [c22_7]; decide) (by rw [c22_7]; decide) (by rw [c22_7]; rfl) (by decide) ?_
                    refine lv_aload_n hx hb dX5_count_117 rfl (lv_at hl 0 rfl) ?_
                    refine va_get (D := D) (ci := 5) (v := .int (S 40 0)) (C := RX5) (T := TX5) (N := 41) hx hb htB ziX5 hown hK hP 0 rfl rfl 40 (by decide) (htB _ zm_439) (fun _ h9 => h9) rfl dX5_count_118 ?_
                    exact W.iret (v := (S 40 0)) hx hb hr (fun t ht hW => ⟨_, rfl, h, ht⟩) (fun q hq => by cases hq) dX5_count_121
                  · replace h := And.right h c22_7
                    by_cases c22_8 : i1 = (8 : Int32)
                    · replace h := And.left h c22_8
                      refine lv_tableIn (off := 100) (tgt := 122) hx hb dX5_count_22 (by rw [c22_8]; decide) (by rw [c22_8]; decide) (by rw [c22_8]; rfl) (by decide) ?_
                      refine lv_aload_n hx hb dX5_count_122 rfl (lv_at hl 0 rfl) ?_
                      refine va_get (D := D) (ci := 5) (v := .int (S 19 0)) (C := RX5) (T := TX5) (N := 41) hx hb htB ziX5 hown hK hP 0 rfl rfl 19 (by decide) (htB _ zm_260) (fun _ h9 => h9) rfl dX5_count_123 ?_
                      exact W.iret (v := (S 19 0)) hx hb hr (fun t ht hW => ⟨_, rfl, h, ht⟩) (fun q hq => by cases hq) dX5_count_126
                    · replace h := And.right h c22_8
                      have z0 := lv_neT c22_0 (a := 0) rfl
                      have z1 := lv_neT c22_1 (a := 1) rfl
                      have z2 := lv_neT c22_2 (a := 2) rfl
                      have z3 := lv_neT c22_3 (a := 3) rfl
                      have z4 := lv_neT c22_4 (a := 4) rfl
                      have z5 := lv_neT c22_5 (a := 5) rfl
                      have z6 := lv_neT c22_6 (a := 6) rfl
                      have z7 := lv_neT c22_7 (a := 7) rfl
                      have z8 := lv_neT c22_8 (a := 8) rfl
                      refine lv_tableOut (tgt := 127) hx hb dX5_count_22 (by omega) (by decide) ?_
                      refine lv_bipush (v := (-9 : Int32)) hx hb dX5_count_127 (by decide) ?_
                      exact W.iret (v := (-9 : Int32)) hx hb hr (fun t ht hW => ⟨_, rfl, h, ht⟩) (fun q hq => by cases hq) dX5_count_129
  · replace h := And.right h c8
    refine lv_aload_n hx hb dX5_count_11 rfl (lv_at hl 0 rfl) ?_
    refine va_get (D := D) (ci := 5) (v := .ref (ah 0)) (C := RX5) (T := TX5) (N := 41) hx hb htB ziX5 hown hK hP 0 rfl rfl 0 (by decide) (htB _ zm_257) (fun _ h9 => h9) rfl dX5_count_12 ?_
    refine lv_iload_n hx hb dX5_count_15 rfl (lv_at hl 1 rfl) ?_
    refine lv_bipush (v := (10 : Int32)) hx hb dX5_count_16 (by decide) ?_
    refine lv_isub hx hb dX5_count_18 ?_
    refine va_iald (D := D) hx hb hK hP 1 0 rfl rfl (And.left h) dX5_count_19 ?_
    replace h := And.right h
    exact W.iret (v := (S 0 (i1 - (10 : Int32)).toNatClampNeg)) hx hb hr (fun t ht hW => ⟨_, rfl, h, ht⟩) (fun q hq => by cases hq) dX5_count_20

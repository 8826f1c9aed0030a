set_option maxHeartbeats 4000000 in
set_option maxRecDepth 100000 in
theorem c_X4_refuse (l : Launch) (D : va_G) (cy : ClassId) (ah : Nat → Nat) (an : Nat → Nat) (am : Nat → Nat) (af : Nat → Nat) (ai : Nat → Nat) (aj : Nat → Nat) (al : Nat → Nat) (ag : Nat → Nat) (sz : Nat) (i1 : Int32) (S : zT) {Q : Int32 → zT → Prop} (h : wp_X4_refuse i1 S Q) : Met l yX4_refuse w_X4_refuse rm_X4_refuse (va_Pc [.ref (ah 99), .int i1] (zM D cy (bX4 ah an am af ai aj al ag cy S) sz)) (va_Qi (S := zT) (fun (r : Int32) (u : zT) => Q r u) (fun u t => va_P D zCl ((fun (u : zT) => (bX4 ah an am af ai aj al ag cy u)) u) t.heap) (va_A (bX4 ah an am af ai aj al ag cy S) sz)) 0 0 (va_A (bX4 ah an am af ai aj al ag cy S) sz) := by
  refine zOf_i (by decide) (Nat.le_of_ble_eq_true rfl) ?_
  intro p e s m below meth c ls A H locs hx hb hr hml hown htB hlocks hK hN hP hD hS hA hl
  replace hl : lv_has ls 3 [(0, .ref (ah 99)), (1, .int i1)] := hl
  refine lv_iconst (v := (-1 : Int32)) hx hb dX4_refuse_0 (by decide) ?_
  refine lv_iload_n hx hb dX4_refuse_1 rfl (lv_at hl 1 rfl) ?_
  refine lv_isub hx hb dX4_refuse_2 ?_
  refine lv_topi (fun y3 ey3 => ?_)
  replace h := h y3 ey3
  refine lv_istore_n (lv' := [(2, .int y3), (0, .ref (ah 99)), (1, .int i1)]) hx hb dX4_refuse_3 rfl hl (by decide) rfl (fun ls hl => ?_)
  refine lv_aload_n hx hb dX4_refuse_4 rfl (lv_at hl 1 rfl) ?_
  refine va_get (D := D) (ci := 4) (v := .ref (ah 11)) (C := RX4) (T := TX4) (N := 12) hx hb htB ziX4 hown hK hP 0 rfl rfl 11 (by decide) (htB _ zm_142) (fun _ h9 => h9) rfl dX4_refuse_5 ?_
  refine lv_iload_n hx hb dX4_refuse_8 rfl (lv_at hl 0 rfl) ?_
  refine lv_aload_n hx hb dX4_refuse_9 rfl (lv_at hl 1 rfl) ?_
  refine va_get (D := D) (ci := 4) (v := .ref (ah 11)) (C := RX4) (T := TX4) (N := 12) hx hb htB ziX4 hown hK hP 0 rfl rfl 11 (by decide) (htB _ zm_142) (fun _ h9 => h9) rfl dX4_refuse_10 ?_
  refine lv_iload_n hx hb dX4_refuse_13 rfl (lv_at hl 0 rfl) ?_
  have hPc : va_P D zCl [((ah 11), .inl (cy, 6, .inl (S 11)))] H := hP.sub [3] rfl
  refine zc_r (va_runS (As := [.ref (ah 11), .int y3]) (rest := [.int y3, .ref (ah 11)]) ⟨hx, hb, hml, hown, htB⟩ (c_X4_at l D cy (ah 11) 6 (S 11) y3 h) (cwS 2 htB (zgS zm_143 zm_14 zm_4 zm_13) rfl rfl rfl hd_X4_at ⟨Nat.le_of_ble_eq_true rfl, Nat.le_of_ble_eq_true rfl⟩) ⟨zR_blind, zR_pre hPc hK hN⟩ rfl rfl hl.1 rfl (lv_room (Nat.le_of_ble_eq_true rfl)) dX4_refuse_14 ⟨Nat.zero_le _, Nat.zero_le _⟩) (fun r14 h => ?_)
  refine lv_iconst (v := (1 : Int32)) hx hb dX4_refuse_17 (by decide) ?_
  refine lv_iadd hx hb dX4_refuse_18 ?_
  have hPc : va_P D zCl [((ah 11), .inl (cy, 6, .inl (S 11)))] H := hP.sub [3] rfl
  have hDc : va_D A [((ah 11), .inl (cy, 6, .inl (S 11)))] := hD.sub [3] (by decide) rfl
  refine zc_v (ws' := fun u => (bX4 ah an am af ai aj al ag cy (va_up S 11 u))) (va_runS (As := [.ref (ah 11), .int y3, .int (r14 + (1 : Int32))]) (rest := []) ⟨hx, hb, hml, hown, htB⟩ (c_X4_put l D cy (ah 11) H.size 6 y3 (r14 + (1 : Int32)) (S 11) h) (cwS 3 htB (zgS zm_144 zm_5 zm_4 zm_3) rfl rfl rfl hd_X4_put ⟨Nat.le_of_ble_eq_true rfl, Nat.le_of_ble_eq_true rfl⟩) ⟨zM_blind, zM_pre hPc hK hN hDc⟩ rfl rfl hl.1 rfl (lv_room (Nat.le_of_ble_eq_true rfl)) dX4_refuse_19 ⟨Nat.zero_le _, Nat.zero_le _⟩) hS hA hP hD [3] [0, 1, 2] [0, 1, 2, 3] (by decide) rfl (by decide) (by decide) rfl (fun u => rfl) (fun u => rfl) (fun u => rfl) (fun u H locs h hP hD hS => ?_)
  obtain ⟨gf0_19, eu⟩ : ∃ z, z = u := ⟨_, rfl⟩
  subst eu
  replace hP : va_P D zCl (bX4 ah an am af ai aj al ag cy (va_up S 11 gf0_19)) H := hP
  replace hD : va_D A (bX4 ah an am af ai aj al ag cy (va_up S 11 gf0_19)) := hD
  obtain ⟨S_19, eS_19⟩ : ∃ z : zT, z = (va_up S 11 gf0_19) := ⟨_, rfl⟩
  replace h := h S_19 eS_19
  replace hP : va_P D zCl (bX4 ah an am af ai aj al ag cy S_19) H := by rw [eS_19]; exact hP
  replace hD : va_D A (bX4 ah an am af ai aj al ag cy S_19) := by rw [eS_19]; exact hD
  refine lv_iload_n hx hb dX4_refuse_22 rfl (lv_at hl 2 rfl) ?_
  exact W.iret (v := i1) hx hb hr (fun t ht hW => ⟨⟨_, S_19, rfl, h, zP_h ht hP⟩, hS.F ht⟩) hS.2.2 dX4_refuse_23
set_option maxHeartbeats 4000000 in
set_option maxRecDepth 100000 in
theorem c_X4_letter (l : Launch) (D : va_G) (cy : ClassId) (ah : Nat → Nat) (an : Nat → Nat) (am : Nat → Nat) (af : Nat → Nat) (ai : Nat → Nat) (aj : Nat → Nat) (al : Nat → Nat) (ag : Nat → Nat) (sz : Nat) (i1 : Int32) (S : zT) (Sl : zT) {Q : Int32 → zT → zT → Prop} (h : wp_X4_letter i1 S Sl Q) : Met l yX4_letter w_X4_letter rm_X4_letter (va_Pc [.ref (ah 99), .int i1] (zM D cy ((bX4 ah an am af ai aj al ag cy S) ++ ((bX2 al cy Sl))) sz)) (va_Qi (S := zT × zT) (fun (r : Int32) (u : zT × zT) => Q r (u.1) (u.2)) (fun u t => va_P D zCl ((fun (u : zT × zT) => ((bX4 ah an am af ai aj al ag cy (u.1)) ++ ((bX2 al cy (u.2))))) u) t.heap) (va_A ((bX4 ah an am af ai aj al ag cy S) ++ ((bX2 al cy Sl))) sz)) 0 0 (va_A ((bX4 ah an am af ai aj al ag cy S) ++ ((bX2 al cy Sl))) sz) := by
  refine zOf_i (by decide) (Nat.le_of_ble_eq_true rfl) ?_
  intro p e s m below meth c ls A H locs hx hb hr hml hown htB hlocks hK hN hP hD hS hA hl
  replace hl : lv_has ls 2 [(0, .ref (ah 99)), (1, .int i1)] := hl
  have L30 : ∀ (S : zT) (Sl : zT), wpb_X4_letter_30 i1 Q S Sl → ∀ (H : Heap) (locs : List Loc), va_P D zCl ((bX4 ah an am af ai aj al ag cy S) ++ ((bX2 al cy Sl))) H → va_D A ((bX4 ah an am af ai aj al ag cy S) ++ ((bX2 al cy Sl))) → va_S A s.heap H locs → ∀ ls : Array Slot, lv_has ls 2 [(0, .ref (ah 99))] → W p l e rm_X4_letter s m ([.ref (ah 99), .int i1] : List Value).toArray below meth c H locs 0 0 (MQ below (va_Qi (S := zT × zT) (fun (r : Int32) (u : zT × zT) => Q r (u.1) (u.2)) (fun u t => va_P D zCl ((fun (u : zT × zT) => ((bX4 ah an am af ai aj al ag cy (u.1)) ++ ((bX2 al cy (u.2))))) u) t.heap) A) ([.ref (ah 99), .int i1] : List Value).toArray s 0 0 A) (F0 m 30 ls []) := by
    intro S Sl h H locs hP hD hS ls hl
    refine lv_aload_n hx hb dX4_letter_30 rfl (lv_at hl 0 rfl) ?_
    refine lv_bipush (v := (-6 : Int32)) hx hb dX4_letter_31 (by decide) ?_
    have hPc : va_P D zCl (bX4 ah an am af ai aj al ag cy S) H := hP.sub [0, 1, 2, 3] rfl
    have hDc : va_D A (bX4 ah an am af ai aj al ag cy S) := hD.sub [0, 1, 2, 3] (by decide) rfl
    refine zc_i (ws' := fun u => ((bX4 ah an am af ai aj al ag cy u) ++ ((bX2 al cy Sl)))) (va_runV (As := [.int (-6 : Int32)]) (rest := []) ⟨hx, hb, hml, hown, htB⟩ (c_X4_refuse l D cy ah an am af ai aj al ag H.size (-6 : Int32) S h) (cwV 1 htB (zgV zm_145 zm_147 zm_148 zm_4 zm_146) rfl rfl rfl hd_X4_refuse ⟨Nat.le_of_ble_eq_true rfl, Nat.le_of_ble_eq_true rfl⟩) ⟨zM_blind, va_recv hK hP (ci := 4) (q0 := 0) rfl rfl, zM_pre hPc hK hN hDc⟩ rfl rfl hl.1 rfl (lv_room (Nat.le_of_ble_eq_true rfl)) dX4_letter_33 ⟨Nat.zero_le _, Nat.zero_le _⟩) hS hA hP hD [0, 1, 2, 3] [4, 5, 6] [3, 4, 5, 6, 0, 1, 2] (by decide) rfl (by decide) (by decide) rfl (fun u => rfl) (fun u => rfl) (fun u => rfl) (fun r33 u H locs h hP hD hS => ?_)
    obtain ⟨S_33, eu⟩ : ∃ z, z = u := ⟨_, rfl⟩
    subst eu
    replace hP : va_P D zCl ((bX4 ah an am af ai aj al ag cy S_33) ++ ((bX2 al cy Sl))) H := hP
    replace hD : va_D A ((bX4 ah an am af ai aj al ag cy S_33) ++ ((bX2 al cy Sl))) := hD
    exact W.iret (v := r33) hx hb hr (fun t ht hW => ⟨⟨_, (S_33, Sl), rfl, h, zP_h ht hP⟩, hS.F ht⟩) hS.2.2 dX4_letter_36
  refine lv_iload_n hx hb dX4_letter_0 rfl (lv_at hl 1 rfl) ?_
  refine lv_if_ge (tgt := 11) hx hb dX4_letter_1 (by decide) (fun c1 => ?_) (fun c1 => ?_)
  · replace h := And.left h c1
    refine lv_iload_n hx hb dX4_letter_11 rfl (lv_at hl 1 rfl) ?_
    refine lv_sipush (v := (255 : Int32)) hx hb dX4_letter_12 (by decide) ?_
    refine lv_icmp_gt (tgt := 30) hx hb dX4_letter_15 (by decide) (fun c15 => ?_) (fun c15 => ?_)
    · replace h := And.left h c15
      exact L30 S Sl h H locs hP hD hS ls (lv_sub hl [0] rfl)
    · replace h := And.right h c15
      refine lv_aload_n hx hb dX4_letter_18 rfl (lv_at hl 0 rfl) ?_
      refine va_get (D := D) (ci := 4) (v := .ref (al 99)) (C := RX4) (T := TX4) (N := 12) hx hb htB ziX4 hown hK hP 0 rfl rfl 6 (by decide) (htB _ zm_149) (fun _ h9 => h9) rfl dX4_letter_19 ?_
      refine va_getN (D := D) (ci := 2) (v := .int (Sl 1 0)) (C := RX2) (T := TX2) (N := 5) hx hb htB ziX2 hown hK hP 4 rfl rfl 1 (by decide) (va_Nw.use rfl (hN _ zm_150)) (fun _ h9 => h9) rfl dX4_letter_22 ?_
      refine lv_bipush (v := (80 : Int32)) hx hb dX4_letter_25 (by decide) ?_
      refine lv_icmp_lt (tgt := 37) hx hb dX4_letter_27 (by decide) (fun c27 => ?_) (fun c27 => ?_)
      · replace h := And.left h c27
        refine lv_aload_n hx hb dX4_letter_37 rfl (lv_at hl 0 rfl) ?_
        refine va_get (D := D) (ci := 4) (v := .ref (al 99)) (C := RX4) (T := TX4) (N := 12) hx hb htB ziX4 hown hK hP 0 rfl rfl 6 (by decide) (htB _ zm_149) (fun _ h9 => h9) rfl dX4_letter_38 ?_
        refine lv_iload_n hx hb dX4_letter_41 rfl (lv_at hl 1 rfl) ?_
        have hPc : va_P D zCl (bX2 al cy Sl) H := hP.sub [4, 5, 6] rfl
        have hDc : va_D A (bX2 al cy Sl) := hD.sub [4, 5, 6] (by decide) rfl
        refine zc_v (ws' := fun u => ((bX4 ah an am af ai aj al ag cy S) ++ ((bX2 al cy u)))) (va_runV (As := [.int i1]) (rest := []) ⟨hx, hb, hml, hown, htB⟩ (c_X2_add l D cy al H.size i1 Sl h) (cwV 1 htB (zgV zm_151 zm_153 zm_154 zm_99 zm_152) rfl rfl rfl hd_X2_add ⟨Nat.le_of_ble_eq_true rfl, Nat.le_of_ble_eq_true rfl⟩) ⟨zM_blind, va_recv hK hP (ci := 2) (q0 := 4) rfl rfl, zM_pre hPc hK hN hDc⟩ rfl rfl hl.1 rfl (lv_room (Nat.le_of_ble_eq_true rfl)) dX4_letter_42 ⟨Nat.zero_le _, Nat.zero_le _⟩) hS hA hP hD [4, 5, 6] [0, 1, 2, 3] [0, 1, 2, 3, 4, 5, 6] (by decide) rfl (by decide) (by decide) rfl (fun u => rfl) (fun u => rfl) (fun u => rfl) (fun u H locs h hP hD hS => ?_)
        obtain ⟨Sl_42, eu⟩ : ∃ z, z = u := ⟨_, rfl⟩
        subst eu
        replace hP : va_P D zCl ((bX4 ah an am af ai aj al ag cy S) ++ ((bX2 al cy Sl_42))) H := hP
        replace hD : va_D A ((bX4 ah an am af ai aj al ag cy S) ++ ((bX2 al cy Sl_42))) := hD
        refine lv_aload_n hx hb dX4_letter_45 rfl (lv_at hl 0 rfl) ?_
        refine va_get (D := D) (ci := 4) (v := .ref (al 99)) (C := RX4) (T := TX4) (N := 12) hx hb htB ziX4 hown hK hP 0 rfl rfl 6 (by decide) (htB _ zm_149) (fun _ h9 => h9) rfl dX4_letter_46 ?_
        refine va_getN (D := D) (ci := 2) (v := .int (Sl_42 1 0)) (C := RX2) (T := TX2) (N := 5) hx hb htB ziX2 hown hK hP 4 rfl rfl 1 (by decide) (va_Nw.use rfl (hN _ zm_150)) (fun _ h9 => h9) rfl dX4_letter_49 ?_
        exact W.iret (v := (Sl_42 1 0)) hx hb hr (fun t ht hW => ⟨⟨_, (S, Sl_42), rfl, h, zP_h ht hP⟩, hS.F ht⟩) hS.2.2 dX4_letter_52
      · replace h := And.right h c27
        exact L30 S Sl h H locs hP hD hS ls (lv_sub hl [0] rfl)
  · replace h := And.right h c1
    refine lv_aload_n hx hb dX4_letter_4 rfl (lv_at hl 0 rfl) ?_
    refine lv_bipush (v := (-4 : Int32)) hx hb dX4_letter_5 (by decide) ?_
    have hPc : va_P D zCl (bX4 ah an am af ai aj al ag cy S) H := hP.sub [0, 1, 2, 3] rfl
    have hDc : va_D A (bX4 ah an am af ai aj al ag cy S) := hD.sub [0, 1, 2, 3] (by decide) rfl
    refine zc_i (ws' := fun u => ((bX4 ah an am af ai aj al ag cy u) ++ ((bX2 al cy Sl)))) (va_runV (As := [.int (-4 : Int32)]) (rest := []) ⟨hx, hb, hml, hown, htB⟩ (c_X4_refuse l D cy ah an am af ai aj al ag H.size (-4 : Int32) S h) (cwV 1 htB (zgV zm_145 zm_147 zm_148 zm_4 zm_146) rfl rfl rfl hd_X4_refuse ⟨Nat.le_of_ble_eq_true rfl, Nat.le_of_ble_eq_true rfl⟩) ⟨zM_blind, va_recv hK hP (ci := 4) (q0 := 0) rfl rfl, zM_pre hPc hK hN hDc⟩ rfl rfl hl.1 rfl (lv_room (Nat.le_of_ble_eq_true rfl)) dX4_letter_7 ⟨Nat.zero_le _, Nat.zero_le _⟩) hS hA hP hD [0, 1, 2, 3] [4, 5, 6] [3, 4, 5, 6, 0, 1, 2] (by decide) rfl (by decide) (by decide) rfl (fun u => rfl) (fun u => rfl) (fun u => rfl) (fun r7 u H locs h hP hD hS => ?_)
    obtain ⟨S_7, eu⟩ : ∃ z, z = u := ⟨_, rfl⟩
    subst eu
    replace hP : va_P D zCl ((bX4 ah an am af ai aj al ag cy S_7) ++ ((bX2 al cy Sl))) H := hP
    replace hD : va_D A ((bX4 ah an am af ai aj al ag cy S_7) ++ ((bX2 al cy Sl))) := hD
    exact W.iret (v := r7) hx hb hr (fun t ht hW => ⟨⟨_, (S_7, Sl), rfl, h, zP_h ht hP⟩, hS.F ht⟩) hS.2.2 dX4_letter_10
set_option maxHeartbeats 4000000 in
set_option maxRecDepth 100000 in
theorem c_X4_walker (l : Launch) (D : va_G) (cy : ClassId) (ah : Nat → Nat) (an : Nat → Nat) (am : Nat → Nat) (af : Nat → Nat) (ai : Nat → Nat) (aj : Nat → Nat) (al : Nat → Nat) (ag : Nat → Nat) (sz : Nat) (Sn : zT) (i1 : Int32) (i2 : Int32) (S : zT) {Q : Int32 → zT → Prop} (h : wp_X4_walker Sn i1 i2 S Q) : Met l yX4_walker w_X4_walker rm_X4_walker (va_Pc [.ref (ah 99), .int i1, .int i2] (zM D cy ((bX4 ah an am af ai aj al ag cy S) ++ ((bX3 an cy Sn))) sz)) (va_Qi (S := zT) (fun (r : Int32) (u : zT) => Q r u) (fun u t => va_P D zCl ((fun (u : zT) => ((bX4 ah an am af ai aj al ag cy u) ++ ((bX3 an cy Sn)))) u) t.heap) (va_A ((bX4 ah an am af ai aj al ag cy S) ++ ((bX3 an cy Sn))) sz)) 0 0 (va_A ((bX4 ah an am af ai aj al ag cy S) ++ ((bX3 an cy Sn))) sz) := by
  refine zOf_i (by decide) (Nat.le_of_ble_eq_true rfl) ?_
  intro p e s m below meth c ls A H locs hx hb hr hml hown htB hlocks hK hN hP hD hS hA hl
  replace hl : lv_has ls 3 [(0, .ref (ah 99)), (1, .int i1), (2, .int i2)] := hl
  have L27 : ∀ (S : zT), wpb_X4_walker_27 Sn i1 i2 Q S → ∀ (H : Heap) (locs : List Loc), va_P D zCl ((bX4 ah an am af ai aj al ag cy S) ++ ((bX3 an cy Sn))) H → va_D A ((bX4 ah an am af ai aj al ag cy S) ++ ((bX3 an cy Sn))) → va_S A s.heap H locs → ∀ ls : Array Slot, lv_has ls 3 [(0, .ref (ah 99))] → W p l e rm_X4_walker s m ([.ref (ah 99), .int i1, .int i2] : List Value).toArray below meth c H locs 0 0 (MQ below (va_Qi (S := zT) (fun (r : Int32) (u : zT) => Q r u) (fun u t => va_P D zCl ((fun (u : zT) => ((bX4 ah an am af ai aj al ag cy u) ++ ((bX3 an cy Sn)))) u) t.heap) A) ([.ref (ah 99), .int i1, .int i2] : List Value).toArray s 0 0 A) (F0 m 27 ls []) := by
    intro S h H locs hP hD hS ls hl
    refine lv_aload_n hx hb dX4_walker_27 rfl (lv_at hl 0 rfl) ?_
    refine lv_bipush (v := (-2 : Int32)) hx hb dX4_walker_28 (by decide) ?_
    have hPc : va_P D zCl (bX4 ah an am af ai aj al ag cy S) H := hP.sub [0, 1, 2, 3] rfl
    have hDc : va_D A (bX4 ah an am af ai aj al ag cy S) := hD.sub [0, 1, 2, 3] (by decide) rfl
    refine zc_i (ws' := fun u => ((bX4 ah an am af ai aj al ag cy u) ++ ((bX3 an cy Sn)))) (va_runV (As := [.int (-2 : Int32)]) (rest := []) ⟨hx, hb, hml, hown, htB⟩ (c_X4_refuse l D cy ah an am af ai aj al ag H.size (-2 : Int32) S h) (cwV 1 htB (zgV zm_145 zm_147 zm_148 zm_4 zm_146) rfl rfl rfl hd_X4_refuse ⟨Nat.le_of_ble_eq_true rfl, Nat.le_of_ble_eq_true rfl⟩) ⟨zM_blind, va_recv hK hP (ci := 4) (q0 := 0) rfl rfl, zM_pre hPc hK hN hDc⟩ rfl rfl hl.1 rfl (lv_room (Nat.le_of_ble_eq_true rfl)) dX4_walker_30 ⟨Nat.zero_le _, Nat.zero_le _⟩) hS hA hP hD [0, 1, 2, 3] [4, 5, 6] [3, 4, 5, 6, 0, 1, 2] (by decide) rfl (by decide) (by decide) rfl (fun u => rfl) (fun u => rfl) (fun u => rfl) (fun r30 u H locs h hP hD hS => ?_)
    obtain ⟨S_30, eu⟩ : ∃ z, z = u := ⟨_, rfl⟩
    subst eu
    replace hP : va_P D zCl ((bX4 ah an am af ai aj al ag cy S_30) ++ ((bX3 an cy Sn))) H := hP
    replace hD : va_D A ((bX4 ah an am af ai aj al ag cy S_30) ++ ((bX3 an cy Sn))) := hD
    exact W.iret (v := r30) hx hb hr (fun t ht hW => ⟨⟨_, S_30, rfl, h, zP_h ht hP⟩, hS.F ht⟩) hS.2.2 dX4_walker_33
  refine lv_aload_n hx hb dX4_walker_0 rfl (lv_at hl 0 rfl) ?_
  refine va_get (D := D) (ci := 4) (v := .ref (an 99)) (C := RX4) (T := TX4) (N := 12) hx hb htB ziX4 hown hK hP 0 rfl rfl 0 (by decide) (htB _ zm_155) (fun _ h9 => h9) rfl dX4_walker_1 ?_
  refine lv_iload_n hx hb dX4_walker_4 rfl (lv_at hl 1 rfl) ?_
  have hPc : va_P D zCl (bX3 an cy Sn) H := hP.sub [4, 5, 6] rfl
  refine zc_r (va_runV (As := [.int i1]) (rest := []) ⟨hx, hb, hml, hown, htB⟩ (c_X3_has l D cy an Sn i1 h) (cwV 1 htB (zgV zm_156 zm_139 zm_140 zm_28 zm_138) rfl rfl rfl hd_X3_has ⟨Nat.le_of_ble_eq_true rfl, Nat.le_of_ble_eq_true rfl⟩) ⟨zR_blind, va_recv hK hP (ci := 3) (q0 := 4) rfl rfl, zR_pre hPc hK hN⟩ rfl rfl hl.1 rfl (lv_room (Nat.le_of_ble_eq_true rfl)) dX4_walker_5 ⟨Nat.zero_le _, Nat.zero_le _⟩) (fun r5 h => ?_)
  refine lv_if_ne (tgt := 17) hx hb dX4_walker_8 (by decide) (fun c8 => ?_) (fun c8 => ?_)
  · replace h := And.right h c8
    refine lv_iload_n hx hb dX4_walker_17 rfl (lv_at hl 2 rfl) ?_
    refine lv_if_lt (tgt := 27) hx hb dX4_walker_18 (by decide) (fun c18 => ?_) (fun c18 => ?_)
    · replace h := And.left h c18
      exact L27 S h H locs hP hD hS ls (lv_sub hl [0] rfl)
    · replace h := And.right h c18
      refine lv_iload_n hx hb dX4_walker_21 rfl (lv_at hl 2 rfl) ?_
      refine lv_bipush (v := (7 : Int32)) hx hb dX4_walker_22 (by decide) ?_
      refine lv_icmp_le (tgt := 34) hx hb dX4_walker_24 (by decide) (fun c24 => ?_) (fun c24 => ?_)
      · replace h := And.left h c24
        refine lv_iload_n hx hb dX4_walker_34 rfl (lv_at hl 2 rfl) ?_
        refine lv_bipush (v := (7 : Int32)) hx hb dX4_walker_35 (by decide) ?_
        refine lv_icmp_ne (tgt := 51) hx hb dX4_walker_37 (by decide) (fun c37 => ?_) (fun c37 => ?_)
        · replace h := And.right h c37
          refine lv_aload_n hx hb dX4_walker_51 rfl (lv_at hl 0 rfl) ?_
          refine va_get (D := D) (ci := 4) (v := .ref (an 99)) (C := RX4) (T := TX4) (N := 12) hx hb htB ziX4 hown hK hP 0 rfl rfl 0 (by decide) (htB _ zm_155) (fun _ h9 => h9) rfl dX4_walker_52 ?_
          refine lv_iload_n hx hb dX4_walker_55 rfl (lv_at hl 1 rfl) ?_
          refine lv_iload_n hx hb dX4_walker_56 rfl (lv_at hl 2 rfl) ?_
          have hPc : va_P D zCl (bX3 an cy Sn) H := hP.sub [4, 5, 6] rfl
          refine zc_r (va_runV (As := [.int i1, .int i2]) (rest := []) ⟨hx, hb, hml, hown, htB⟩ (c_X3_of l D cy an Sn i1 i2 h) (cwV 2 htB (zgV zm_157 zm_33 zm_34 zm_28 zm_32) rfl rfl rfl hd_X3_of ⟨Nat.le_of_ble_eq_true rfl, Nat.le_of_ble_eq_true rfl⟩) ⟨zR_blind, va_recv hK hP (ci := 3) (q0 := 4) rfl rfl, zR_pre hPc hK hN⟩ rfl rfl hl.1 rfl (lv_room (Nat.le_of_ble_eq_true rfl)) dX4_walker_57 ⟨Nat.zero_le _, Nat.zero_le _⟩) (fun r57 h => ?_)
          exact W.iret (v := r57) hx hb hr (fun t ht hW => ⟨⟨_, S, rfl, h, zP_h ht hP⟩, hS.F ht⟩) hS.2.2 dX4_walker_60
        · replace h := And.left h c37
          refine lv_aload_n hx hb dX4_walker_40 rfl (lv_at hl 0 rfl) ?_
          refine va_get (D := D) (ci := 4) (v := .ref (an 99)) (C := RX4) (T := TX4) (N := 12) hx hb htB ziX4 hown hK hP 0 rfl rfl 0 (by decide) (htB _ zm_155) (fun _ h9 => h9) rfl dX4_walker_41 ?_
          refine lv_iload_n hx hb dX4_walker_44 rfl (lv_at hl 1 rfl) ?_
          have hPc : va_P D zCl (bX3 an cy Sn) H := hP.sub [4, 5, 6] rfl
          refine zc_r (va_runV (As := [.int i1]) (rest := []) ⟨hx, hb, hml, hown, htB⟩ (c_X3_yardsHeldFor l D cy an Sn i1 h) (cwV 1 htB (zgV zm_158 zm_46 zm_47 zm_28 zm_45) rfl rfl rfl hd_X3_yardsHeldFor ⟨Nat.le_of_ble_eq_true rfl, Nat.le_of_ble_eq_true rfl⟩) ⟨zR_blind, va_recv hK hP (ci := 3) (q0 := 4) rfl rfl, zR_pre hPc hK hN⟩ rfl rfl hl.1 rfl (lv_room (Nat.le_of_ble_eq_true rfl)) dX4_walker_45 ⟨Nat.zero_le _, Nat.zero_le _⟩) (fun r45 h => ?_)
          refine lv_goto (tgt := 60) hx hb dX4_walker_48 (by decide) ?_
          exact W.iret (v := r45) hx hb hr (fun t ht hW => ⟨⟨_, S, rfl, h, zP_h ht hP⟩, hS.F ht⟩) hS.2.2 dX4_walker_60
      · replace h := And.right h c24
        exact L27 S h H locs hP hD hS ls (lv_sub hl [0] rfl)
  · replace h := And.left h c8
    refine lv_aload_n hx hb dX4_walker_11 rfl (lv_at hl 0 rfl) ?_
    refine lv_iconst (v := (-1 : Int32)) hx hb dX4_walker_12 (by decide) ?_
    have hPc : va_P D zCl (bX4 ah an am af ai aj al ag cy S) H := hP.sub [0, 1, 2, 3] rfl
    have hDc : va_D A (bX4 ah an am af ai aj al ag cy S) := hD.sub [0, 1, 2, 3] (by decide) rfl
    refine zc_i (ws' := fun u => ((bX4 ah an am af ai aj al ag cy u) ++ ((bX3 an cy Sn)))) (va_runV (As := [.int (-1 : Int32)]) (rest := []) ⟨hx, hb, hml, hown, htB⟩ (c_X4_refuse l D cy ah an am af ai aj al ag H.size (-1 : Int32) S h) (cwV 1 htB (zgV zm_145 zm_147 zm_148 zm_4 zm_146) rfl rfl rfl hd_X4_refuse ⟨Nat.le_of_ble_eq_true rfl, Nat.le_of_ble_eq_true rfl⟩) ⟨zM_blind, va_recv hK hP (ci := 4) (q0 := 0) rfl rfl, zM_pre hPc hK hN hDc⟩ rfl rfl hl.1 rfl (lv_room (Nat.le_of_ble_eq_true rfl)) dX4_walker_13 ⟨Nat.zero_le _, Nat.zero_le _⟩) hS hA hP hD [0, 1, 2, 3] [4, 5, 6] [3, 4, 5, 6, 0, 1, 2] (by decide) rfl (by decide) (by decide) rfl (fun u => rfl) (fun u => rfl) (fun u => rfl) (fun r13 u H locs h hP hD hS => ?_)
    obtain ⟨S_13, eu⟩ : ∃ z, z = u := ⟨_, rfl⟩
    subst eu
    replace hP : va_P D zCl ((bX4 ah an am af ai aj al ag cy S_13) ++ ((bX3 an cy Sn))) H := hP
    replace hD : va_D A ((bX4 ah an am af ai aj al ag cy S_13) ++ ((bX3 an cy Sn))) := hD
    exact W.iret (v := r13) hx hb hr (fun t ht hW => ⟨⟨_, S_13, rfl, h, zP_h ht hP⟩, hS.F ht⟩) hS.2.2 dX4_walker_16
set_option maxHeartbeats 4000000 in
set_option maxRecDepth 100000 in
theorem c_X4_set (l : Launch) (D : va_G) (cy : ClassId) (ah : Nat → Nat) (an : Nat → Nat) (am : Nat → Nat) (af : Nat → Nat) (ai : Nat → Nat) (aj : Nat → Nat) (al : Nat → Nat) (ag : Nat → Nat) (sz : Nat) (i1 : Int32) (i2 : Int32) (S : zT) (Sn : zT) {Q : Int32 → zT → zT → Prop} (h : wp_X4_set i1 i2 S Sn Q) : Met l yX4_set w_X4_set rm_X4_set (va_Pc [.ref (ah 99), .int i1, .int i2] (zM D cy ((bX4 ah an am af ai aj al ag cy S) ++ ((bX3 an cy Sn))) sz)) (va_Qi (S := zT × zT) (fun (r : Int32) (u : zT × zT) => Q r (u.1) (u.2)) (fun u t => va_P D zCl ((fun (u : zT × zT) => ((bX4 ah an am af ai aj al ag cy (u.1)) ++ ((bX3 an cy (u.2))))) u) t.heap) (va_A ((bX4 ah an am af ai aj al ag cy S) ++ ((bX3 an cy Sn))) sz)) 0 0 (va_A ((bX4 ah an am af ai aj al ag cy S) ++ ((bX3 an cy Sn))) sz) := by
  refine zOf_i (by decide) (Nat.le_of_ble_eq_true rfl) ?_
  intro p e s m below meth c ls A H locs hx hb hr hml hown htB hlocks hK hN hP hD hS hA hl
  replace hl : lv_has ls 3 [(0, .ref (ah 99)), (1, .int i1), (2, .int i2)] := hl
  have L49 : ∀ (t0 : Int32) (t1 : Int32) (S : zT) (Sn : zT), wpb_X4_set_49 i1 i2 Q t0 t1 S Sn → ∀ (H : Heap) (locs : List Loc), va_P D zCl ((bX4 ah an am af ai aj al ag cy S) ++ ((bX3 an cy Sn))) H → va_D A ((bX4 ah an am af ai aj al ag cy S) ++ ((bX3 an cy Sn))) → va_S A s.heap H locs → ∀ ls : Array Slot, lv_has ls 3 [(0, .ref (ah 99)), (1, .int i1), (2, .int i2)] → W p l e rm_X4_set s m ([.ref (ah 99), .int i1, .int i2] : List Value).toArray below meth c H locs 0 0 (MQ below (va_Qi (S := zT × zT) (fun (r : Int32) (u : zT × zT) => Q r (u.1) (u.2)) (fun u t => va_P D zCl ((fun (u : zT × zT) => ((bX4 ah an am af ai aj al ag cy (u.1)) ++ ((bX3 an cy (u.2))))) u) t.heap) A) ([.ref (ah 99), .int i1, .int i2] : List Value).toArray s 0 0 A) (F0 m 49 ls [.int t1, .int t0]) := by
    intro t0 t1 S Sn h H locs hP hD hS ls hl
    refine lv_icmp_le (tgt := 59) hx hb dX4_set_49 (by decide) (fun c49 => ?_) (fun c49 => ?_)
    · replace h := And.left h c49
      refine lv_aload_n hx hb dX4_set_59 rfl (lv_at hl 0 rfl) ?_
      refine va_get (D := D) (ci := 4) (v := .ref (an 99)) (C := RX4) (T := TX4) (N := 12) hx hb htB ziX4 hown hK hP 0 rfl rfl 0 (by decide) (htB _ zm_155) (fun _ h9 => h9) rfl dX4_set_60 ?_
      refine lv_iload_n hx hb dX4_set_63 rfl (lv_at hl 1 rfl) ?_
      refine lv_iload_n hx hb dX4_set_64 rfl (lv_at hl 2 rfl) ?_
      have hPc : va_P D zCl (bX3 an cy Sn) H := hP.sub [4, 5, 6] rfl
      have hDc : va_D A (bX3 an cy Sn) := hD.sub [4, 5, 6] (by decide) rfl
      refine zc_i (ws' := fun u => ((bX4 ah an am af ai aj al ag cy S) ++ ((bX3 an cy u)))) (va_runV (As := [.int i1, .int i2]) (rest := []) ⟨hx, hb, hml, hown, htB⟩ (c_X3_change l D cy an H.size i1 i2 Sn h) (cwV 2 htB (zgV zm_159 zm_135 zm_136 zm_28 zm_134) rfl rfl rfl hd_X3_change ⟨Nat.le_of_ble_eq_true rfl, Nat.le_of_ble_eq_true rfl⟩) ⟨zM_blind, va_recv hK hP (ci := 3) (q0 := 4) rfl rfl, zM_pre hPc hK hN hDc⟩ rfl rfl hl.1 rfl (lv_room (Nat.le_of_ble_eq_true rfl)) dX4_set_65 ⟨Nat.zero_le _, Nat.zero_le _⟩) hS hA hP hD [4, 5, 6] [0, 1, 2, 3] [0, 1, 2, 3, 4, 5, 6] (by decide) rfl (by decide) (by decide) rfl (fun u => rfl) (fun u => rfl) (fun u => rfl) (fun r65 u H locs h hP hD hS => ?_)
      obtain ⟨Sn_65, eu⟩ : ∃ z, z = u := ⟨_, rfl⟩
      subst eu
      replace hP : va_P D zCl ((bX4 ah an am af ai aj al ag cy S) ++ ((bX3 an cy Sn_65))) H := hP
      replace hD : va_D A ((bX4 ah an am af ai aj al ag cy S) ++ ((bX3 an cy Sn_65))) := hD
      exact W.iret (v := r65) hx hb hr (fun t ht hW => ⟨⟨_, (S, Sn_65), rfl, h, zP_h ht hP⟩, hS.F ht⟩) hS.2.2 dX4_set_68
    · replace h := And.right h c49
      refine lv_aload_n hx hb dX4_set_52 rfl (lv_at hl 0 rfl) ?_
      refine lv_bipush (v := (-6 : Int32)) hx hb dX4_set_53 (by decide) ?_
      have hPc : va_P D zCl (bX4 ah an am af ai aj al ag cy S) H := hP.sub [0, 1, 2, 3] rfl
      have hDc : va_D A (bX4 ah an am af ai aj al ag cy S) := hD.sub [0, 1, 2, 3] (by decide) rfl
      refine zc_i (ws' := fun u => ((bX4 ah an am af ai aj al ag cy u) ++ ((bX3 an cy Sn)))) (va_runV (As := [.int (-6 : Int32)]) (rest := []) ⟨hx, hb, hml, hown, htB⟩ (c_X4_refuse l D cy ah an am af ai aj al ag H.size (-6 : Int32) S h) (cwV 1 htB (zgV zm_145 zm_147 zm_148 zm_4 zm_146) rfl rfl rfl hd_X4_refuse ⟨Nat.le_of_ble_eq_true rfl, Nat.le_of_ble_eq_true rfl⟩) ⟨zM_blind, va_recv hK hP (ci := 4) (q0 := 0) rfl rfl, zM_pre hPc hK hN hDc⟩ rfl rfl hl.1 rfl (lv_room (Nat.le_of_ble_eq_true rfl)) dX4_set_55 ⟨Nat.zero_le _, Nat.zero_le _⟩) hS hA hP hD [0, 1, 2, 3] [4, 5, 6] [3, 4, 5, 6, 0, 1, 2] (by decide) rfl (by decide) (by decide) rfl (fun u => rfl) (fun u => rfl) (fun u => rfl) (fun r55 u H locs h hP hD hS => ?_)
      obtain ⟨S_55, eu⟩ : ∃ z, z = u := ⟨_, rfl⟩
      subst eu
      replace hP : va_P D zCl ((bX4 ah an am af ai aj al ag cy S_55) ++ ((bX3 an cy Sn))) H := hP
      replace hD : va_D A ((bX4 ah an am af ai aj al ag cy S_55) ++ ((bX3 an cy Sn))) := hD
      exact W.iret (v := r55) hx hb hr (fun t ht hW => ⟨⟨_, (S_55, Sn), rfl, h, zP_h ht hP⟩, hS.F ht⟩) hS.2.2 dX4_set_58
  have L26 : ∀ (t0 : Int32) (t1 : Int32) (S : zT) (Sn : zT), wpb_X4_set_26 i1 i2 Q t0 t1 S Sn → ∀ (H : Heap) (locs : List Loc), va_P D zCl ((bX4 ah an am af ai aj al ag cy S) ++ ((bX3 an cy Sn))) H → va_D A ((bX4 ah an am af ai aj al ag cy S) ++ ((bX3 an cy Sn))) → va_S A s.heap H locs → ∀ ls : Array Slot, lv_has ls 3 [(0, .ref (ah 99)), (1, .int i1), (2, .int i2)] → W p l e rm_X4_set s m ([.ref (ah 99), .int i1, .int i2] : List Value).toArray below meth c H locs 0 0 (MQ below (va_Qi (S := zT × zT) (fun (r : Int32) (u : zT × zT) => Q r (u.1) (u.2)) (fun u t => va_P D zCl ((fun (u : zT × zT) => ((bX4 ah an am af ai aj al ag cy (u.1)) ++ ((bX3 an cy (u.2))))) u) t.heap) A) ([.ref (ah 99), .int i1, .int i2] : List Value).toArray s 0 0 A) (F0 m 26 ls [.int t1, .int t0]) := by
    intro t0 t1 S Sn h H locs hP hD hS ls hl
    refine lv_icmp_ge (tgt := 36) hx hb dX4_set_26 (by decide) (fun c26 => ?_) (fun c26 => ?_)
    · replace h := And.left h c26
      refine lv_iload_n hx hb dX4_set_36 rfl (lv_at hl 2 rfl) ?_
      refine lv_iload_n hx hb dX4_set_37 rfl (lv_at hl 1 rfl) ?_
      refine lv_iconst (v := (3 : Int32)) hx hb dX4_set_38 (by decide) ?_
      refine lv_icmp_ne (tgt := 47) hx hb dX4_set_39 (by decide) (fun c39 => ?_) (fun c39 => ?_)
      · replace h := And.right h c39
        refine lv_bipush (v := (9 : Int32)) hx hb dX4_set_47 (by decide) ?_
        exact L49 i2 (9 : Int32) S Sn h H locs hP hD hS ls (lv_sub hl [0, 1, 2] rfl)
      · replace h := And.left h c39
        refine lv_bipush (v := (40 : Int32)) hx hb dX4_set_42 (by decide) ?_
        refine lv_goto (tgt := 49) hx hb dX4_set_44 (by decide) ?_
        exact L49 i2 (40 : Int32) S Sn h H locs hP hD hS ls (lv_sub hl [0, 1, 2] rfl)
    · replace h := And.right h c26
      refine lv_aload_n hx hb dX4_set_29 rfl (lv_at hl 0 rfl) ?_
      refine lv_bipush (v := (-4 : Int32)) hx hb dX4_set_30 (by decide) ?_
      have hPc : va_P D zCl (bX4 ah an am af ai aj al ag cy S) H := hP.sub [0, 1, 2, 3] rfl
      have hDc : va_D A (bX4 ah an am af ai aj al ag cy S) := hD.sub [0, 1, 2, 3] (by decide) rfl
      refine zc_i (ws' := fun u => ((bX4 ah an am af ai aj al ag cy u) ++ ((bX3 an cy Sn)))) (va_runV (As := [.int (-4 : Int32)]) (rest := []) ⟨hx, hb, hml, hown, htB⟩ (c_X4_refuse l D cy ah an am af ai aj al ag H.size (-4 : Int32) S h) (cwV 1 htB (zgV zm_145 zm_147 zm_148 zm_4 zm_146) rfl rfl rfl hd_X4_refuse ⟨Nat.le_of_ble_eq_true rfl, Nat.le_of_ble_eq_true rfl⟩) ⟨zM_blind, va_recv hK hP (ci := 4) (q0 := 0) rfl rfl, zM_pre hPc hK hN hDc⟩ rfl rfl hl.1 rfl (lv_room (Nat.le_of_ble_eq_true rfl)) dX4_set_32 ⟨Nat.zero_le _, Nat.zero_le _⟩) hS hA hP hD [0, 1, 2, 3] [4, 5, 6] [3, 4, 5, 6, 0, 1, 2] (by decide) rfl (by decide) (by decide) rfl (fun u => rfl) (fun u => rfl) (fun u => rfl) (fun r32 u H locs h hP hD hS => ?_)
      obtain ⟨S_32, eu⟩ : ∃ z, z = u := ⟨_, rfl⟩
      subst eu
      replace hP : va_P D zCl ((bX4 ah an am af ai aj al ag cy S_32) ++ ((bX3 an cy Sn))) H := hP
      replace hD : va_D A ((bX4 ah an am af ai aj al ag cy S_32) ++ ((bX3 an cy Sn))) := hD
      exact W.iret (v := r32) hx hb hr (fun t ht hW => ⟨⟨_, (S_32, Sn), rfl, h, zP_h ht hP⟩, hS.F ht⟩) hS.2.2 dX4_set_35
  have L9 : ∀ (S : zT) (Sn : zT), wpb_X4_set_9 i1 i2 Q S Sn → ∀ (H : Heap) (locs : List Loc), va_P D zCl ((bX4 ah an am af ai aj al ag cy S) ++ ((bX3 an cy Sn))) H → va_D A ((bX4 ah an am af ai aj al ag cy S) ++ ((bX3 an cy Sn))) → va_S A s.heap H locs → ∀ ls : Array Slot, lv_has ls 3 [(0, .ref (ah 99))] → W p l e rm_X4_set s m ([.ref (ah 99), .int i1, .int i2] : List Value).toArray below meth c H locs 0 0 (MQ below (va_Qi (S := zT × zT) (fun (r : Int32) (u : zT × zT) => Q r (u.1) (u.2)) (fun u t => va_P D zCl ((fun (u : zT × zT) => ((bX4 ah an am af ai aj al ag cy (u.1)) ++ ((bX3 an cy (u.2))))) u) t.heap) A) ([.ref (ah 99), .int i1, .int i2] : List Value).toArray s 0 0 A) (F0 m 9 ls []) := by
    intro S Sn h H locs hP hD hS ls hl
    refine lv_aload_n hx hb dX4_set_9 rfl (lv_at hl 0 rfl) ?_
    refine lv_bipush (v := (-2 : Int32)) hx hb dX4_set_10 (by decide) ?_
    have hPc : va_P D zCl (bX4 ah an am af ai aj al ag cy S) H := hP.sub [0, 1, 2, 3] rfl
    have hDc : va_D A (bX4 ah an am af ai aj al ag cy S) := hD.sub [0, 1, 2, 3] (by decide) rfl
    refine zc_i (ws' := fun u => ((bX4 ah an am af ai aj al ag cy u) ++ ((bX3 an cy Sn)))) (va_runV (As := [.int (-2 : Int32)]) (rest := []) ⟨hx, hb, hml, hown, htB⟩ (c_X4_refuse l D cy ah an am af ai aj al ag H.size (-2 : Int32) S h) (cwV 1 htB (zgV zm_145 zm_147 zm_148 zm_4 zm_146) rfl rfl rfl hd_X4_refuse ⟨Nat.le_of_ble_eq_true rfl, Nat.le_of_ble_eq_true rfl⟩) ⟨zM_blind, va_recv hK hP (ci := 4) (q0 := 0) rfl rfl, zM_pre hPc hK hN hDc⟩ rfl rfl hl.1 rfl (lv_room (Nat.le_of_ble_eq_true rfl)) dX4_set_12 ⟨Nat.zero_le _, Nat.zero_le _⟩) hS hA hP hD [0, 1, 2, 3] [4, 5, 6] [3, 4, 5, 6, 0, 1, 2] (by decide) rfl (by decide) (by decide) rfl (fun u => rfl) (fun u => rfl) (fun u => rfl) (fun r12 u H locs h hP hD hS => ?_)
    obtain ⟨S_12, eu⟩ : ∃ z, z = u := ⟨_, rfl⟩
    subst eu
    replace hP : va_P D zCl ((bX4 ah an am af ai aj al ag cy S_12) ++ ((bX3 an cy Sn))) H := hP
    replace hD : va_D A ((bX4 ah an am af ai aj al ag cy S_12) ++ ((bX3 an cy Sn))) := hD
    exact W.iret (v := r12) hx hb hr (fun t ht hW => ⟨⟨_, (S_12, Sn), rfl, h, zP_h ht hP⟩, hS.F ht⟩) hS.2.2 dX4_set_15
  refine lv_iload_n hx hb dX4_set_0 rfl (lv_at hl 1 rfl) ?_
  refine lv_if_lt (tgt := 9) hx hb dX4_set_1 (by decide) (fun c1 => ?_) (fun c1 => ?_)
  · replace h := And.left h c1
    exact L9 S Sn h H locs hP hD hS ls (lv_sub hl [0] rfl)
  · replace h := And.right h c1
    refine lv_iload_n hx hb dX4_set_4 rfl (lv_at hl 1 rfl) ?_
    refine lv_iconst (v := (3 : Int32)) hx hb dX4_set_5 (by decide) ?_
    refine lv_icmp_le (tgt := 16) hx hb dX4_set_6 (by decide) (fun c6 => ?_) (fun c6 => ?_)
    · replace h := And.left h c6
      refine lv_iload_n hx hb dX4_set_16 rfl (lv_at hl 2 rfl) ?_
      refine lv_iload_n hx hb dX4_set_17 rfl (lv_at hl 1 rfl) ?_
      refine lv_if_ne (tgt := 25) hx hb dX4_set_18 (by decide) (fun c18 => ?_) (fun c18 => ?_)
      · replace h := And.right h c18
        refine lv_iconst (v := (0 : Int32)) hx hb dX4_set_25 (by decide) ?_
        exact L26 i2 (0 : Int32) S Sn h H locs hP hD hS ls (lv_sub hl [0, 1, 2] rfl)
      · replace h := And.left h c18
        refine lv_iconst (v := (1 : Int32)) hx hb dX4_set_21 (by decide) ?_
        refine lv_goto (tgt := 26) hx hb dX4_set_22 (by decide) ?_
        exact L26 i2 (1 : Int32) S Sn h H locs hP hD hS ls (lv_sub hl [0, 1, 2] rfl)
    · replace h := And.right h c6
      exact L9 S Sn h H locs hP hD hS ls (lv_sub hl [0] rfl)
set_option maxHeartbeats 4000000 in
set_option maxRecDepth 100000 in
theorem c_X4_custom (l : Launch) (D : va_G) (cy : ClassId) (ah : Nat → Nat) (an : Nat → Nat) (am : Nat → Nat) (af : Nat → Nat) (ai : Nat → Nat) (aj : Nat → Nat) (al : Nat → Nat) (ag : Nat → Nat) (sz : Nat) (i1 : Int32) (S : zT) (Sn : zT) {Q : Int32 → zT → zT → Prop} (h : wp_X4_custom i1 S Sn Q) : Met l yX4_custom w_X4_custom rm_X4_custom (va_Pc [.ref (ah 99), .int i1] (zM D cy ((bX4 ah an am af ai aj al ag cy S) ++ ((bX3 an cy Sn))) sz)) (va_Qi (S := zT × zT) (fun (r : Int32) (u : zT × zT) => Q r (u.1) (u.2)) (fun u t => va_P D zCl ((fun (u : zT × zT) => ((bX4 ah an am af ai aj al ag cy (u.1)) ++ ((bX3 an cy (u.2))))) u) t.heap) (va_A ((bX4 ah an am af ai aj al ag cy S) ++ ((bX3 an cy Sn))) sz)) 0 0 (va_A ((bX4 ah an am af ai aj al ag cy S) ++ ((bX3 an cy Sn))) sz) := by
  refine zOf_i (by decide) (Nat.le_of_ble_eq_true rfl) ?_
  intro p e s m below meth c ls A H locs hx hb hr hml hown htB hlocks hK hN hP hD hS hA hl
  replace hl : lv_has ls 2 [(0, .ref (ah 99)), (1, .int i1)] := hl
  refine lv_iload_n hx hb dX4_custom_0 rfl (lv_at hl 1 rfl) ?_
  have hPc : va_P D zCl ([] : va_W) H := hP.sub [] rfl
  refine zc_r (va_runS (As := [.int i1]) (rest := []) ⟨hx, hb, hml, hown, htB⟩ (c_X4_isCustom l D cy  i1 h) (cwS 1 htB (zgS zm_160 zm_121 zm_4 zm_120) rfl rfl rfl hd_X4_isCustom ⟨Nat.le_of_ble_eq_true rfl, Nat.le_of_ble_eq_true rfl⟩) ⟨zR_blind, zR_pre hPc hK hN⟩ rfl rfl hl.1 rfl (lv_room (Nat.le_of_ble_eq_true rfl)) dX4_custom_1 ⟨Nat.zero_le _, Nat.zero_le _⟩) (fun r1 h => ?_)
  refine lv_if_eq (tgt := 19) hx hb dX4_custom_4 (by decide) (fun c4 => ?_) (fun c4 => ?_)
  · replace h := And.left h c4
    refine lv_aload_n hx hb dX4_custom_19 rfl (lv_at hl 0 rfl) ?_
    refine lv_bipush (v := (-2 : Int32)) hx hb dX4_custom_20 (by decide) ?_
    have hPc : va_P D zCl (bX4 ah an am af ai aj al ag cy S) H := hP.sub [0, 1, 2, 3] rfl
    have hDc : va_D A (bX4 ah an am af ai aj al ag cy S) := hD.sub [0, 1, 2, 3] (by decide) rfl
    refine zc_i (ws' := fun u => ((bX4 ah an am af ai aj al ag cy u) ++ ((bX3 an cy Sn)))) (va_runV (As := [.int (-2 : Int32)]) (rest := []) ⟨hx, hb, hml, hown, htB⟩ (c_X4_refuse l D cy ah an am af ai aj al ag H.size (-2 : Int32) S h) (cwV 1 htB (zgV zm_145 zm_147 zm_148 zm_4 zm_146) rfl rfl rfl hd_X4_refuse ⟨Nat.le_of_ble_eq_true rfl, Nat.le_of_ble_eq_true rfl⟩) ⟨zM_blind, va_recv hK hP (ci := 4) (q0 := 0) rfl rfl, zM_pre hPc hK hN hDc⟩ rfl rfl hl.1 rfl (lv_room (Nat.le_of_ble_eq_true rfl)) dX4_custom_22 ⟨Nat.zero_le _, Nat.zero_le _⟩) hS hA hP hD [0, 1, 2, 3] [4, 5, 6] [3, 4, 5, 6, 0, 1, 2] (by decide) rfl (by decide) (by decide) rfl (fun u => rfl) (fun u => rfl) (fun u => rfl) (fun r22 u H locs h hP hD hS => ?_)
    obtain ⟨S_22, eu⟩ : ∃ z, z = u := ⟨_, rfl⟩
    subst eu
    replace hP : va_P D zCl ((bX4 ah an am af ai aj al ag cy S_22) ++ ((bX3 an cy Sn))) H := hP
    replace hD : va_D A ((bX4 ah an am af ai aj al ag cy S_22) ++ ((bX3 an cy Sn))) := hD
    exact W.iret (v := r22) hx hb hr (fun t ht hW => ⟨⟨_, (S_22, Sn), rfl, h, zP_h ht hP⟩, hS.F ht⟩) hS.2.2 dX4_custom_25
  · replace h := And.right h c4
    refine lv_aload_n hx hb dX4_custom_7 rfl (lv_at hl 0 rfl) ?_
    refine va_get (D := D) (ci := 4) (v := .ref (an 99)) (C := RX4) (T := TX4) (N := 12) hx hb htB ziX4 hown hK hP 0 rfl rfl 0 (by decide) (htB _ zm_155) (fun _ h9 => h9) rfl dX4_custom_8 ?_
    refine lv_iconst (v := (4 : Int32)) hx hb dX4_custom_11 (by decide) ?_
    refine lv_iload_n hx hb dX4_custom_12 rfl (lv_at hl 1 rfl) ?_
    have hPc : va_P D zCl (bX3 an cy Sn) H := hP.sub [4, 5, 6] rfl
    have hDc : va_D A (bX3 an cy Sn) := hD.sub [4, 5, 6] (by decide) rfl
    refine zc_i (ws' := fun u => ((bX4 ah an am af ai aj al ag cy S) ++ ((bX3 an cy u)))) (va_runV (As := [.int (4 : Int32), .int i1]) (rest := []) ⟨hx, hb, hml, hown, htB⟩ (c_X3_change l D cy an H.size (4 : Int32) i1 Sn h) (cwV 2 htB (zgV zm_159 zm_135 zm_136 zm_28 zm_134) rfl rfl rfl hd_X3_change ⟨Nat.le_of_ble_eq_true rfl, Nat.le_of_ble_eq_true rfl⟩) ⟨zM_blind, va_recv hK hP (ci := 3) (q0 := 4) rfl rfl, zM_pre hPc hK hN hDc⟩ rfl rfl hl.1 rfl (lv_room (Nat.le_of_ble_eq_true rfl)) dX4_custom_13 ⟨Nat.zero_le _, Nat.zero_le _⟩) hS hA hP hD [4, 5, 6] [0, 1, 2, 3] [0, 1, 2, 3, 4, 5, 6] (by decide) rfl (by decide) (by decide) rfl (fun u => rfl) (fun u => rfl) (fun u => rfl) (fun r13 u H locs h hP hD hS => ?_)
    obtain ⟨Sn_13, eu⟩ : ∃ z, z = u := ⟨_, rfl⟩
    subst eu
    replace hP : va_P D zCl ((bX4 ah an am af ai aj al ag cy S) ++ ((bX3 an cy Sn_13))) H := hP
    replace hD : va_D A ((bX4 ah an am af ai aj al ag cy S) ++ ((bX3 an cy Sn_13))) := hD
    refine lv_goto (tgt := 25) hx hb dX4_custom_16 (by decide) ?_
    exact W.iret (v := r13) hx hb hr (fun t ht hW => ⟨⟨_, (S, Sn_13), rfl, h, zP_h ht hP⟩, hS.F ht⟩) hS.2.2 dX4_custom_25
set_option maxHeartbeats 4000000 in
set_option maxRecDepth 100000 in
theorem c_X4_far (l : Launch) (D : va_G) (cy : ClassId) (ah : Nat → Nat) (an : Nat → Nat) (am : Nat → Nat) (af : Nat → Nat) (ai : Nat → Nat) (aj : Nat → Nat) (al : Nat → Nat) (ag : Nat → Nat) (sz : Nat) (Sn : zT) (i1 : Int32) (i2 : Int32) (i3 : Int32) (S : zT) {Q : Int32 → zT → Prop} (h : wp_X4_far Sn i1 i2 i3 S Q) : Met l yX4_far w_X4_far rm_X4_far (va_Pc [.ref (ah 99), .int i1, .int i2, .int i3] (zM D cy ((bX4 ah an am af ai aj al ag cy S) ++ ((bX3 an cy Sn))) sz)) (va_Qi (S := zT) (fun (r : Int32) (u : zT) => Q r u) (fun u t => va_P D zCl ((fun (u : zT) => ((bX4 ah an am af ai aj al ag cy u) ++ ((bX3 an cy Sn)))) u) t.heap) (va_A ((bX4 ah an am af ai aj al ag cy S) ++ ((bX3 an cy Sn))) sz)) 0 0 (va_A ((bX4 ah an am af ai aj al ag cy S) ++ ((bX3 an cy Sn))) sz) := by
  refine zOf_i (by decide) (Nat.le_of_ble_eq_true rfl) ?_
  intro p e s m below meth c ls A H locs hx hb hr hml hown htB hlocks hK hN hP hD hS hA hl
  replace hl : lv_has ls 4 [(0, .ref (ah 99)), (1, .int i1), (2, .int i2), (3, .int i3)] := hl
  have L63 : ∀ (t1 : Int32) (t2 : Int32) (t3 : Int32) (S : zT), wpb_X4_far_63 Sn i1 i2 i3 Q t1 t2 t3 S → ∀ (H : Heap) (locs : List Loc), va_P D zCl ((bX4 ah an am af ai aj al ag cy S) ++ ((bX3 an cy Sn))) H → va_D A ((bX4 ah an am af ai aj al ag cy S) ++ ((bX3 an cy Sn))) → va_S A s.heap H locs → ∀ ls : Array Slot, lv_has ls 4 [(0, .ref (ah 99))] → W p l e rm_X4_far s m ([.ref (ah 99), .int i1, .int i2, .int i3] : List Value).toArray below meth c H locs 0 0 (MQ below (va_Qi (S := zT) (fun (r : Int32) (u : zT) => Q r u) (fun u t => va_P D zCl ((fun (u : zT) => ((bX4 ah an am af ai aj al ag cy u) ++ ((bX3 an cy Sn)))) u) t.heap) A) ([.ref (ah 99), .int i1, .int i2, .int i3] : List Value).toArray s 0 0 A) (F0 m 63 ls [.int t3, .int t2, .int t1, .ref (an 99)]) := by
    intro t1 t2 t3 S h H locs hP hD hS ls hl
    have hPc : va_P D zCl (bX3 an cy Sn) H := hP.sub [4, 5, 6] rfl
    refine zc_r (va_runV (As := [.int t1, .int t2, .int t3]) (rest := []) ⟨hx, hb, hml, hown, htB⟩ (c_X3_holdsUpTo l D cy an Sn t1 t2 t3 h) (cwV 3 htB (zgV zm_161 zm_63 zm_64 zm_28 zm_62) rfl rfl rfl hd_X3_holdsUpTo ⟨Nat.le_of_ble_eq_true rfl, Nat.le_of_ble_eq_true rfl⟩) ⟨zR_blind, va_recv hK hP (ci := 3) (q0 := 4) rfl rfl, zR_pre hPc hK hN⟩ rfl rfl hl.1 rfl (lv_room (Nat.le_of_ble_eq_true rfl)) dX4_far_63 ⟨Nat.zero_le _, Nat.zero_le _⟩) (fun r63 h => ?_)
    exact W.iret (v := r63) hx hb hr (fun t ht hW => ⟨⟨_, S, rfl, h, zP_h ht hP⟩, hS.F ht⟩) hS.2.2 dX4_far_66
  have L27 : ∀ (S : zT), wpb_X4_far_27 Sn i1 i2 i3 Q S → ∀ (H : Heap) (locs : List Loc), va_P D zCl ((bX4 ah an am af ai aj al ag cy S) ++ ((bX3 an cy Sn))) H → va_D A ((bX4 ah an am af ai aj al ag cy S) ++ ((bX3 an cy Sn))) → va_S A s.heap H locs → ∀ ls : Array Slot, lv_has ls 4 [(0, .ref (ah 99))] → W p l e rm_X4_far s m ([.ref (ah 99), .int i1, .int i2, .int i3] : List Value).toArray below meth c H locs 0 0 (MQ below (va_Qi (S := zT) (fun (r : Int32) (u : zT) => Q r u) (fun u t => va_P D zCl ((fun (u : zT) => ((bX4 ah an am af ai aj al ag cy u) ++ ((bX3 an cy Sn)))) u) t.heap) A) ([.ref (ah 99), .int i1, .int i2, .int i3] : List Value).toArray s 0 0 A) (F0 m 27 ls []) := by
    intro S h H locs hP hD hS ls hl
    refine lv_aload_n hx hb dX4_far_27 rfl (lv_at hl 0 rfl) ?_
    refine lv_iconst (v := (-1 : Int32)) hx hb dX4_far_28 (by decide) ?_
    have hPc : va_P D zCl (bX4 ah an am af ai aj al ag cy S) H := hP.sub [0, 1, 2, 3] rfl
    have hDc : va_D A (bX4 ah an am af ai aj al ag cy S) := hD.sub [0, 1, 2, 3] (by decide) rfl
    refine zc_i (ws' := fun u => ((bX4 ah an am af ai aj al ag cy u) ++ ((bX3 an cy Sn)))) (va_runV (As := [.int (-1 : Int32)]) (rest := []) ⟨hx, hb, hml, hown, htB⟩ (c_X4_refuse l D cy ah an am af ai aj al ag H.size (-1 : Int32) S h) (cwV 1 htB (zgV zm_145 zm_147 zm_148 zm_4 zm_146) rfl rfl rfl hd_X4_refuse ⟨Nat.le_of_ble_eq_true rfl, Nat.le_of_ble_eq_true rfl⟩) ⟨zM_blind, va_recv hK hP (ci := 4) (q0 := 0) rfl rfl, zM_pre hPc hK hN hDc⟩ rfl rfl hl.1 rfl (lv_room (Nat.le_of_ble_eq_true rfl)) dX4_far_29 ⟨Nat.zero_le _, Nat.zero_le _⟩) hS hA hP hD [0, 1, 2, 3] [4, 5, 6] [3, 4, 5, 6, 0, 1, 2] (by decide) rfl (by decide) (by decide) rfl (fun u => rfl) (fun u => rfl) (fun u => rfl) (fun r29 u H locs h hP hD hS => ?_)
    obtain ⟨S_29, eu⟩ : ∃ z, z = u := ⟨_, rfl⟩
    subst eu
    replace hP : va_P D zCl ((bX4 ah an am af ai aj al ag cy S_29) ++ ((bX3 an cy Sn))) H := hP
    replace hD : va_D A ((bX4 ah an am af ai aj al ag cy S_29) ++ ((bX3 an cy Sn))) := hD
    exact W.iret (v := r29) hx hb hr (fun t ht hW => ⟨⟨_, S_29, rfl, h, zP_h ht hP⟩, hS.F ht⟩) hS.2.2 dX4_far_32
  refine lv_aload_n hx hb dX4_far_0 rfl (lv_at hl 0 rfl) ?_
  refine va_get (D := D) (ci := 4) (v := .ref (an 99)) (C := RX4) (T := TX4) (N := 12) hx hb htB ziX4 hown hK hP 0 rfl rfl 0 (by decide) (htB _ zm_155) (fun _ h9 => h9) rfl dX4_far_1 ?_
  refine lv_iload_n hx hb dX4_far_4 rfl (lv_at hl 1 rfl) ?_
  have hPc : va_P D zCl (bX3 an cy Sn) H := hP.sub [4, 5, 6] rfl
  refine zc_r (va_runV (As := [.int i1]) (rest := []) ⟨hx, hb, hml, hown, htB⟩ (c_X3_has l D cy an Sn i1 h) (cwV 1 htB (zgV zm_156 zm_139 zm_140 zm_28 zm_138) rfl rfl rfl hd_X3_has ⟨Nat.le_of_ble_eq_true rfl, Nat.le_of_ble_eq_true rfl⟩) ⟨zR_blind, va_recv hK hP (ci := 3) (q0 := 4) rfl rfl, zR_pre hPc hK hN⟩ rfl rfl hl.1 rfl (lv_room (Nat.le_of_ble_eq_true rfl)) dX4_far_5 ⟨Nat.zero_le _, Nat.zero_le _⟩) (fun r5 h => ?_)
  refine lv_if_eq (tgt := 27) hx hb dX4_far_8 (by decide) (fun c8 => ?_) (fun c8 => ?_)
  · replace h := And.left h c8
    exact L27 S h H locs hP hD hS ls (lv_sub hl [0] rfl)
  · replace h := And.right h c8
    refine lv_aload_n hx hb dX4_far_11 rfl (lv_at hl 0 rfl) ?_
    refine va_get (D := D) (ci := 4) (v := .ref (an 99)) (C := RX4) (T := TX4) (N := 12) hx hb htB ziX4 hown hK hP 0 rfl rfl 0 (by decide) (htB _ zm_155) (fun _ h9 => h9) rfl dX4_far_12 ?_
    refine lv_iload_n hx hb dX4_far_15 rfl (lv_at hl 2 rfl) ?_
    have hPc : va_P D zCl (bX3 an cy Sn) H := hP.sub [4, 5, 6] rfl
    refine zc_r (va_runV (As := [.int i2]) (rest := []) ⟨hx, hb, hml, hown, htB⟩ (c_X3_has l D cy an Sn i2 h) (cwV 1 htB (zgV zm_156 zm_139 zm_140 zm_28 zm_138) rfl rfl rfl hd_X3_has ⟨Nat.le_of_ble_eq_true rfl, Nat.le_of_ble_eq_true rfl⟩) ⟨zR_blind, va_recv hK hP (ci := 3) (q0 := 4) rfl rfl, zR_pre hPc hK hN⟩ rfl rfl hl.1 rfl (lv_room (Nat.le_of_ble_eq_true rfl)) dX4_far_16 ⟨Nat.zero_le _, Nat.zero_le _⟩) (fun r16 h => ?_)
    refine lv_if_eq (tgt := 27) hx hb dX4_far_19 (by decide) (fun c19 => ?_) (fun c19 => ?_)
    · replace h := And.left h c19
      exact L27 S h H locs hP hD hS ls (lv_sub hl [0] rfl)
    · replace h := And.right h c19
      refine lv_iload_n hx hb dX4_far_22 rfl (lv_at hl 1 rfl) ?_
      refine lv_iload_n hx hb dX4_far_23 rfl (lv_at hl 2 rfl) ?_
      refine lv_icmp_ne (tgt := 33) hx hb dX4_far_24 (by decide) (fun c24 => ?_) (fun c24 => ?_)
      · replace h := And.right h c24
        refine lv_iload_n hx hb dX4_far_33 rfl (lv_at hl 3 rfl) ?_
        have hPc : va_P D zCl ([] : va_W) H := hP.sub [] rfl
        refine zc_r (va_runS (As := [.int i3]) (rest := []) ⟨hx, hb, hml, hown, htB⟩ (c_X4_isBit l D cy  i3 h) (cwS 1 htB (zgS zm_162 zm_118 zm_4 zm_117) rfl rfl rfl hd_X4_isBit ⟨Nat.le_of_ble_eq_true rfl, Nat.le_of_ble_eq_true rfl⟩) ⟨zR_blind, zR_pre hPc hK hN⟩ rfl rfl hl.1 rfl (lv_room (Nat.le_of_ble_eq_true rfl)) dX4_far_34 ⟨Nat.zero_le _, Nat.zero_le _⟩) (fun r34 h => ?_)
        refine lv_if_ne (tgt := 47) hx hb dX4_far_37 (by decide) (fun c37 => ?_) (fun c37 => ?_)
        · replace h := And.right h c37
          refine lv_aload_n hx hb dX4_far_47 rfl (lv_at hl 0 rfl) ?_
          refine va_get (D := D) (ci := 4) (v := .ref (an 99)) (C := RX4) (T := TX4) (N := 12) hx hb htB ziX4 hown hK hP 0 rfl rfl 0 (by decide) (htB _ zm_155) (fun _ h9 => h9) rfl dX4_far_48 ?_
          refine lv_iload_n hx hb dX4_far_51 rfl (lv_at hl 1 rfl) ?_
          refine lv_iload_n hx hb dX4_far_52 rfl (lv_at hl 2 rfl) ?_
          refine lv_iload_n hx hb dX4_far_53 rfl (lv_at hl 3 rfl) ?_
          refine lv_iconst (v := (1 : Int32)) hx hb dX4_far_54 (by decide) ?_
          refine lv_icmp_ne (tgt := 62) hx hb dX4_far_55 (by decide) (fun c55 => ?_) (fun c55 => ?_)
          · replace h := And.right h c55
            refine lv_iconst (v := (0 : Int32)) hx hb dX4_far_62 (by decide) ?_
            exact L63 i1 i2 (0 : Int32) S h H locs hP hD hS ls (lv_sub hl [0] rfl)
          · replace h := And.left h c55
            refine lv_iconst (v := (1 : Int32)) hx hb dX4_far_58 (by decide) ?_
            refine lv_goto (tgt := 63) hx hb dX4_far_59 (by decide) ?_
            exact L63 i1 i2 (1 : Int32) S h H locs hP hD hS ls (lv_sub hl [0] rfl)
        · replace h := And.left h c37
          refine lv_aload_n hx hb dX4_far_40 rfl (lv_at hl 0 rfl) ?_
          refine lv_bipush (v := (-2 : Int32)) hx hb dX4_far_41 (by decide) ?_
          have hPc : va_P D zCl (bX4 ah an am af ai aj al ag cy S) H := hP.sub [0, 1, 2, 3] rfl
          have hDc : va_D A (bX4 ah an am af ai aj al ag cy S) := hD.sub [0, 1, 2, 3] (by decide) rfl
          refine zc_i (ws' := fun u => ((bX4 ah an am af ai aj al ag cy u) ++ ((bX3 an cy Sn)))) (va_runV (As := [.int (-2 : Int32)]) (rest := []) ⟨hx, hb, hml, hown, htB⟩ (c_X4_refuse l D cy ah an am af ai aj al ag H.size (-2 : Int32) S h) (cwV 1 htB (zgV zm_145 zm_147 zm_148 zm_4 zm_146) rfl rfl rfl hd_X4_refuse ⟨Nat.le_of_ble_eq_true rfl, Nat.le_of_ble_eq_true rfl⟩) ⟨zM_blind, va_recv hK hP (ci := 4) (q0 := 0) rfl rfl, zM_pre hPc hK hN hDc⟩ rfl rfl hl.1 rfl (lv_room (Nat.le_of_ble_eq_true rfl)) dX4_far_43 ⟨Nat.zero_le _, Nat.zero_le _⟩) hS hA hP hD [0, 1, 2, 3] [4, 5, 6] [3, 4, 5, 6, 0, 1, 2] (by decide) rfl (by decide) (by decide) rfl (fun u => rfl) (fun u => rfl) (fun u => rfl) (fun r43 u H locs h hP hD hS => ?_)
          obtain ⟨S_43, eu⟩ : ∃ z, z = u := ⟨_, rfl⟩
          subst eu
          replace hP : va_P D zCl ((bX4 ah an am af ai aj al ag cy S_43) ++ ((bX3 an cy Sn))) H := hP
          replace hD : va_D A ((bX4 ah an am af ai aj al ag cy S_43) ++ ((bX3 an cy Sn))) := hD
          exact W.iret (v := r43) hx hb hr (fun t ht hW => ⟨⟨_, S_43, rfl, h, zP_h ht hP⟩, hS.F ht⟩) hS.2.2 dX4_far_46
      · replace h := And.left h c24
        exact L27 S h H locs hP hD hS ls (lv_sub hl [0] rfl)
set_option maxHeartbeats 4000000 in
set_option maxRecDepth 100000 in
theorem c_X4_there (l : Launch) (D : va_G) (cy : ClassId) (ah : Nat → Nat) (an : Nat → Nat) (am : Nat → Nat) (af : Nat → Nat) (ai : Nat → Nat) (aj : Nat → Nat) (al : Nat → Nat) (ag : Nat → Nat) (sz : Nat) (Sn : zT) (i1 : Int32) (S : zT) {Q : Int32 → zT → Prop} (h : wp_X4_there Sn i1 S Q) : Met l yX4_there w_X4_there rm_X4_there (va_Pc [.ref (ah 99), .int i1] (zM D cy ((bX4 ah an am af ai aj al ag cy S) ++ ((bX3 an cy Sn))) sz)) (va_Qi (S := zT) (fun (r : Int32) (u : zT) => Q r u) (fun u t => va_P D zCl ((fun (u : zT) => ((bX4 ah an am af ai aj al ag cy u) ++ ((bX3 an cy Sn)))) u) t.heap) (va_A ((bX4 ah an am af ai aj al ag cy S) ++ ((bX3 an cy Sn))) sz)) 0 0 (va_A ((bX4 ah an am af ai aj al ag cy S) ++ ((bX3 an cy Sn))) sz) := by
  refine zOf_i (by decide) (Nat.le_of_ble_eq_true rfl) ?_
  intro p e s m below meth c ls A H locs hx hb hr hml hown htB hlocks hK hN hP hD hS hA hl
  replace hl : lv_has ls 2 [(0, .ref (ah 99)), (1, .int i1)] := hl
  refine lv_aload_n hx hb dX4_there_0 rfl (lv_at hl 0 rfl) ?_
  refine va_get (D := D) (ci := 4) (v := .ref (an 99)) (C := RX4) (T := TX4) (N := 12) hx hb htB ziX4 hown hK hP 0 rfl rfl 0 (by decide) (htB _ zm_155) (fun _ h9 => h9) rfl dX4_there_1 ?_
  refine lv_iload_n hx hb dX4_there_4 rfl (lv_at hl 1 rfl) ?_
  have hPc : va_P D zCl (bX3 an cy Sn) H := hP.sub [4, 5, 6] rfl
  refine zc_r (va_runV (As := [.int i1]) (rest := []) ⟨hx, hb, hml, hown, htB⟩ (c_X3_has l D cy an Sn i1 h) (cwV 1 htB (zgV zm_156 zm_139 zm_140 zm_28 zm_138) rfl rfl rfl hd_X3_has ⟨Nat.le_of_ble_eq_true rfl, Nat.le_of_ble_eq_true rfl⟩) ⟨zR_blind, va_recv hK hP (ci := 3) (q0 := 4) rfl rfl, zR_pre hPc hK hN⟩ rfl rfl hl.1 rfl (lv_room (Nat.le_of_ble_eq_true rfl)) dX4_there_5 ⟨Nat.zero_le _, Nat.zero_le _⟩) (fun r5 h => ?_)
  refine lv_if_eq (tgt := 22) hx hb dX4_there_8 (by decide) (fun c8 => ?_) (fun c8 => ?_)
  · replace h := And.left h c8
    refine lv_aload_n hx hb dX4_there_22 rfl (lv_at hl 0 rfl) ?_
    refine lv_iconst (v := (-1 : Int32)) hx hb dX4_there_23 (by decide) ?_
    have hPc : va_P D zCl (bX4 ah an am af ai aj al ag cy S) H := hP.sub [0, 1, 2, 3] rfl
    have hDc : va_D A (bX4 ah an am af ai aj al ag cy S) := hD.sub [0, 1, 2, 3] (by decide) rfl
    refine zc_i (ws' := fun u => ((bX4 ah an am af ai aj al ag cy u) ++ ((bX3 an cy Sn)))) (va_runV (As := [.int (-1 : Int32)]) (rest := []) ⟨hx, hb, hml, hown, htB⟩ (c_X4_refuse l D cy ah an am af ai aj al ag H.size (-1 : Int32) S h) (cwV 1 htB (zgV zm_145 zm_147 zm_148 zm_4 zm_146) rfl rfl rfl hd_X4_refuse ⟨Nat.le_of_ble_eq_true rfl, Nat.le_of_ble_eq_true rfl⟩) ⟨zM_blind, va_recv hK hP (ci := 4) (q0 := 0) rfl rfl, zM_pre hPc hK hN hDc⟩ rfl rfl hl.1 rfl (lv_room (Nat.le_of_ble_eq_true rfl)) dX4_there_24 ⟨Nat.zero_le _, Nat.zero_le _⟩) hS hA hP hD [0, 1, 2, 3] [4, 5, 6] [3, 4, 5, 6, 0, 1, 2] (by decide) rfl (by decide) (by decide) rfl (fun u => rfl) (fun u => rfl) (fun u => rfl) (fun r24 u H locs h hP hD hS => ?_)
    obtain ⟨S_24, eu⟩ : ∃ z, z = u := ⟨_, rfl⟩
    subst eu
    replace hP : va_P D zCl ((bX4 ah an am af ai aj al ag cy S_24) ++ ((bX3 an cy Sn))) H := hP
    replace hD : va_D A ((bX4 ah an am af ai aj al ag cy S_24) ++ ((bX3 an cy Sn))) := hD
    exact W.iret (v := r24) hx hb hr (fun t ht hW => ⟨⟨_, S_24, rfl, h, zP_h ht hP⟩, hS.F ht⟩) hS.2.2 dX4_there_27
  · replace h := And.right h c8
    refine lv_aload_n hx hb dX4_there_11 rfl (lv_at hl 0 rfl) ?_
    refine va_get (D := D) (ci := 4) (v := .ref (an 99)) (C := RX4) (T := TX4) (N := 12) hx hb htB ziX4 hown hK hP 0 rfl rfl 0 (by decide) (htB _ zm_155) (fun _ h9 => h9) rfl dX4_there_12 ?_
    refine lv_iload_n hx hb dX4_there_15 rfl (lv_at hl 1 rfl) ?_
    have hPc : va_P D zCl (bX3 an cy Sn) H := hP.sub [4, 5, 6] rfl
    refine zc_r (va_runV (As := [.int i1]) (rest := []) ⟨hx, hb, hml, hown, htB⟩ (c_X3_thereFrom l D cy an Sn i1 h) (cwV 1 htB (zgV zm_163 zm_89 zm_90 zm_28 zm_88) rfl rfl rfl hd_X3_thereFrom ⟨Nat.le_of_ble_eq_true rfl, Nat.le_of_ble_eq_true rfl⟩) ⟨zR_blind, va_recv hK hP (ci := 3) (q0 := 4) rfl rfl, zR_pre hPc hK hN⟩ rfl rfl hl.1 rfl (lv_room (Nat.le_of_ble_eq_true rfl)) dX4_there_16 ⟨Nat.zero_le _, Nat.zero_le _⟩) (fun r16 h => ?_)
    refine lv_goto (tgt := 27) hx hb dX4_there_19 (by decide) ?_
    exact W.iret (v := r16) hx hb hr (fun t ht hW => ⟨⟨_, S, rfl, h, zP_h ht hP⟩, hS.F ht⟩) hS.2.2 dX4_there_27
set_option maxHeartbeats 4000000 in
set_option maxRecDepth 100000 in
theorem c_X4_order (l : Launch) (D : va_G) (cy : ClassId) (ah : Nat → Nat) (an : Nat → Nat) (am : Nat → Nat) (af : Nat → Nat) (ai : Nat → Nat) (aj : Nat → Nat) (al : Nat → Nat) (ag : Nat → Nat) (sz : Nat) (Sn : zT) (i1 : Int32) (S : zT) (Sg : zT) {Q : Int32 → zT → zT → Prop} (h : wp_X4_order Sn i1 S Sg Q) : Met l yX4_order w_X4_order rm_X4_order (va_Pc [.ref (ah 99), .int i1] (zM D cy ((bX4 ah an am af ai aj al ag cy S) ++ ((bX3 an cy Sn) ++ ((bX1 ag cy Sg)))) sz)) (va_Qi (S := zT × zT) (fun (r : Int32) (u : zT × zT) => Q r (u.1) (u.2)) (fun u t => va_P D zCl ((fun (u : zT × zT) => ((bX4 ah an am af ai aj al ag cy (u.1)) ++ ((bX3 an cy Sn) ++ ((bX1 ag cy (u.2)))))) u) t.heap) (va_A ((bX4 ah an am af ai aj al ag cy S) ++ ((bX3 an cy Sn) ++ ((bX1 ag cy Sg)))) sz)) 0 0 (va_A ((bX4 ah an am af ai aj al ag cy S) ++ ((bX3 an cy Sn) ++ ((bX1 ag cy Sg)))) sz) := by
  refine zOf_i (by decide) (Nat.le_of_ble_eq_true rfl) ?_
  intro p e s m below meth c ls A H locs hx hb hr hml hown htB hlocks hK hN hP hD hS hA hl
  replace hl : lv_has ls 2 [(0, .ref (ah 99)), (1, .int i1)] := hl
  refine lv_iload_n hx hb dX4_order_0 rfl (lv_at hl 1 rfl) ?_
  refine lv_if_ge (tgt := 11) hx hb dX4_order_1 (by decide) (fun c1 => ?_) (fun c1 => ?_)
  · replace h := And.left h c1
    refine lv_iload_n hx hb dX4_order_11 rfl (lv_at hl 1 rfl) ?_
    refine lv_aload_n hx hb dX4_order_12 rfl (lv_at hl 0 rfl) ?_
    refine va_get (D := D) (ci := 4) (v := .ref (an 99)) (C := RX4) (T := TX4) (N := 12) hx hb htB ziX4 hown hK hP 0 rfl rfl 0 (by decide) (htB _ zm_155) (fun _ h9 => h9) rfl dX4_order_13 ?_
    refine va_getN (D := D) (ci := 3) (v := .int (Sn 2 0)) (C := RX3) (T := TX3) (N := 3) hx hb htB ziX3 hown hK hP 4 rfl rfl 2 (by decide) (va_Nw.use rfl (hN _ zm_164)) (fun _ h9 => h9) rfl dX4_order_16 ?_
    refine lv_icmp_lt (tgt := 25) hx hb dX4_order_19 (by decide) (fun c19 => ?_) (fun c19 => ?_)
    · replace h := And.left h c19
      refine lv_aload_n hx hb dX4_order_25 rfl (lv_at hl 0 rfl) ?_
      refine va_get (D := D) (ci := 4) (v := .ref (ag 99)) (C := RX4) (T := TX4) (N := 12) hx hb htB ziX4 hown hK hP 0 rfl rfl 7 (by decide) (htB _ zm_165) (fun _ h9 => h9) rfl dX4_order_26 ?_
      refine lv_aload_n hx hb dX4_order_29 rfl (lv_at hl 0 rfl) ?_
      refine va_get (D := D) (ci := 4) (v := .ref (an 99)) (C := RX4) (T := TX4) (N := 12) hx hb htB ziX4 hown hK hP 0 rfl rfl 0 (by decide) (htB _ zm_155) (fun _ h9 => h9) rfl dX4_order_30 ?_
      have hPc : va_P D zCl ((bX1 ag cy Sg) ++ ((bX3 an cy Sn))) H := hP.sub [7, 8, 9, 10, 11, 12, 13, 14, 15, 16, 17, 4, 5, 6] rfl
      have hDc : va_D A ((bX1 ag cy Sg) ++ ((bX3 an cy Sn))) := hD.sub [7, 8, 9, 10, 11, 12, 13, 14, 15, 16, 17, 4, 5, 6] (by decide) rfl
      refine zc_v (ws' := fun u => ((bX4 ah an am af ai aj al ag cy S) ++ ((bX3 an cy Sn) ++ ((bX1 ag cy u))))) (va_runV (As := [.ref (an 99)]) (rest := []) ⟨hx, hb, hml, hown, htB⟩ (c_X1_run l D cy ag an H.size Sn Sg h) (cwV 1 htB (zgV zm_166 zm_168 zm_169 zm_57 zm_167) rfl rfl rfl hd_X1_run ⟨Nat.le_of_ble_eq_true rfl, Nat.le_of_ble_eq_true rfl⟩) ⟨zM_blind, va_recv hK hP (ci := 1) (q0 := 7) rfl rfl, zM_pre hPc hK hN hDc⟩ rfl rfl hl.1 rfl (lv_room (Nat.le_of_ble_eq_true rfl)) dX4_order_33 ⟨Nat.zero_le _, Nat.zero_le _⟩) hS hA hP hD [7, 8, 9, 10, 11, 12, 13, 14, 15, 16, 17, 4, 5, 6] [0, 1, 2, 3] [0, 1, 2, 3, 15, 16, 17, 4, 5, 6, 7, 8, 9, 10, 11, 12, 13, 14] (by decide) rfl (by decide) (by decide) rfl (fun u => rfl) (fun u => rfl) (fun u => rfl) (fun u H locs h hP hD hS => ?_)
      obtain ⟨Sg_33, eu⟩ : ∃ z, z = u := ⟨_, rfl⟩
      subst eu
      replace hP : va_P D zCl ((bX4 ah an am af ai aj al ag cy S) ++ ((bX3 an cy Sn) ++ ((bX1 ag cy Sg_33)))) H := hP
      replace hD : va_D A ((bX4 ah an am af ai aj al ag cy S) ++ ((bX3 an cy Sn) ++ ((bX1 ag cy Sg_33)))) := hD
      refine lv_aload_n hx hb dX4_order_36 rfl (lv_at hl 0 rfl) ?_
      refine va_get (D := D) (ci := 4) (v := .ref (ag 99)) (C := RX4) (T := TX4) (N := 12) hx hb htB ziX4 hown hK hP 0 rfl rfl 7 (by decide) (htB _ zm_165) (fun _ h9 => h9) rfl dX4_order_37 ?_
      refine va_getN (D := D) (ci := 1) (v := .ref (ag 0)) (C := RX1) (T := TX1) (N := 11) hx hb htB ziX1 hown hK hP 7 rfl rfl 0 (by decide) (va_Nw.use rfl (hN _ zm_170)) (fun _ h9 => h9) rfl dX4_order_40 ?_
      refine lv_iload_n hx hb dX4_order_43 rfl (lv_at hl 1 rfl) ?_
      have hPc : va_P D zCl [((ag 0), .inl (cy, 8, .inl (Sg_33 0)))] H := hP.sub [8] rfl
      refine zc_r (va_runS (As := [.ref (ag 0), .int i1]) (rest := []) ⟨hx, hb, hml, hown, htB⟩ (c_X4_at l D cy (ag 0) 8 (Sg_33 0) i1 h) (cwS 2 htB (zgS zm_143 zm_14 zm_4 zm_13) rfl rfl rfl hd_X4_at ⟨Nat.le_of_ble_eq_true rfl, Nat.le_of_ble_eq_true rfl⟩) ⟨zR_blind, zR_pre hPc hK hN⟩ rfl rfl hl.1 rfl (lv_room (Nat.le_of_ble_eq_true rfl)) dX4_order_44 ⟨Nat.zero_le _, Nat.zero_le _⟩) (fun r44 h => ?_)
      exact W.iret (v := r44) hx hb hr (fun t ht hW => ⟨⟨_, (S, Sg_33), rfl, h, zP_h ht hP⟩, hS.F ht⟩) hS.2.2 dX4_order_47
    · replace h := And.right h c19
      refine lv_bipush (v := (-9 : Int32)) hx hb dX4_order_22 (by decide) ?_
      exact W.iret (v := (-9 : Int32)) hx hb hr (fun t ht hW => ⟨⟨_, (S, Sg), rfl, h, zP_h ht hP⟩, hS.F ht⟩) hS.2.2 dX4_order_24
  · replace h := And.right h c1
    refine lv_aload_n hx hb dX4_order_4 rfl (lv_at hl 0 rfl) ?_
    refine lv_bipush (v := (-4 : Int32)) hx hb dX4_order_5 (by decide) ?_
    have hPc : va_P D zCl (bX4 ah an am af ai aj al ag cy S) H := hP.sub [0, 1, 2, 3] rfl
    have hDc : va_D A (bX4 ah an am af ai aj al ag cy S) := hD.sub [0, 1, 2, 3] (by decide) rfl
    refine zc_i (ws' := fun u => ((bX4 ah an am af ai aj al ag cy u) ++ ((bX3 an cy Sn) ++ ((bX1 ag cy Sg))))) (va_runV (As := [.int (-4 : Int32)]) (rest := []) ⟨hx, hb, hml, hown, htB⟩ (c_X4_refuse l D cy ah an am af ai aj al ag H.size (-4 : Int32) S h) (cwV 1 htB (zgV zm_145 zm_147 zm_148 zm_4 zm_146) rfl rfl rfl hd_X4_refuse ⟨Nat.le_of_ble_eq_true rfl, Nat.le_of_ble_eq_true rfl⟩) ⟨zM_blind, va_recv hK hP (ci := 4) (q0 := 0) rfl rfl, zM_pre hPc hK hN hDc⟩ rfl rfl hl.1 rfl (lv_room (Nat.le_of_ble_eq_true rfl)) dX4_order_7 ⟨Nat.zero_le _, Nat.zero_le _⟩) hS hA hP hD [0, 1, 2, 3] [4, 5, 6, 7, 8, 9, 10, 11, 12, 13, 14, 15, 16, 17] [14, 15, 16, 17, 0, 1, 2, 3, 4, 5, 6, 7, 8, 9, 10, 11, 12, 13] (by decide) rfl (by decide) (by decide) rfl (fun u => rfl) (fun u => rfl) (fun u => rfl) (fun r7 u H locs h hP hD hS => ?_)
    obtain ⟨S_7, eu⟩ : ∃ z, z = u := ⟨_, rfl⟩
    subst eu
    replace hP : va_P D zCl ((bX4 ah an am af ai aj al ag cy S_7) ++ ((bX3 an cy Sn) ++ ((bX1 ag cy Sg)))) H := hP
    replace hD : va_D A ((bX4 ah an am af ai aj al ag cy S_7) ++ ((bX3 an cy Sn) ++ ((bX1 ag cy Sg)))) := hD
    exact W.iret (v := r7) hx hb hr (fun t ht hW => ⟨⟨_, (S_7, Sg), rfl, h, zP_h ht hP⟩, hS.F ht⟩) hS.2.2 dX4_order_10
set_option maxHeartbeats 4000000 in
set_option maxRecDepth 100000 in
theorem c_X4_answerOf_k1 (l : Launch) (D : va_G) (cy : ClassId) (ah : Nat → Nat) (an : Nat → Nat) (am : Nat → Nat) (af : Nat → Nat) (ai : Nat → Nat) (aj : Nat → Nat) (al : Nat → Nat) (ag : Nat → Nat) (sz : Nat) (Sn : zT) (i2 : Int32) (S : zT) (Sg : zT) {Q : Int32 → zT → zT → Prop} (h : wp_X4_answerOf_k1 Sn i2 S Sg Q) : Met l yX4_answerOf w_X4_answerOf rm_X4_answerOf_k1 (va_Pc [.ref (ah 99), .ref (ag 1), .int i2] (zM D cy ((bX4 ah an am af ai aj al ag cy S) ++ ((bX3 an cy Sn) ++ ((bX1 ag cy Sg)))) sz)) (va_Qi (S := zT × zT) (fun (r : Int32) (u : zT × zT) => Q r (u.1) (u.2)) (fun u t => va_P D zCl ((fun (u : zT × zT) => ((bX4 ah an am af ai aj al ag cy (u.1)) ++ ((bX3 an cy Sn) ++ ((bX1 ag cy (u.2)))))) u) t.heap) (va_A ((bX4 ah an am af ai aj al ag cy S) ++ ((bX3 an cy Sn) ++ ((bX1 ag cy Sg)))) sz)) 0 0 (va_A ((bX4 ah an am af ai aj al ag cy S) ++ ((bX3 an cy Sn) ++ ((bX1 ag cy Sg)))) sz) := by
  refine zOf_i (by decide) (Nat.le_of_ble_eq_true rfl) ?_
  intro p e s m below meth c ls A H locs hx hb hr hml hown htB hlocks hK hN hP hD hS hA hl
  replace hl : lv_has ls 3 [(0, .ref (ah 99)), (1, .ref (ag 1)), (2, .int i2)] := hl
  refine lv_aload_n hx hb dX4_answerOf_0 rfl (lv_at hl 0 rfl) ?_
  refine va_get (D := D) (ci := 4) (v := .ref (an 99)) (C := RX4) (T := TX4) (N := 12) hx hb htB ziX4 hown hK hP 0 rfl rfl 0 (by decide) (htB _ zm_155) (fun _ h9 => h9) rfl dX4_answerOf_1 ?_
  refine lv_iload_n hx hb dX4_answerOf_4 rfl (lv_at hl 2 rfl) ?_
  have hPc : va_P D zCl (bX3 an cy Sn) H := hP.sub [4, 5, 6] rfl
  refine zc_r (va_runV (As := [.int i2]) (rest := []) ⟨hx, hb, hml, hown, htB⟩ (c_X3_has l D cy an Sn i2 h) (cwV 1 htB (zgV zm_156 zm_139 zm_140 zm_28 zm_138) rfl rfl rfl hd_X3_has ⟨Nat.le_of_ble_eq_true rfl, Nat.le_of_ble_eq_true rfl⟩) ⟨zR_blind, va_recv hK hP (ci := 3) (q0 := 4) rfl rfl, zR_pre hPc hK hN⟩ rfl rfl hl.1 rfl (lv_room (Nat.le_of_ble_eq_true rfl)) dX4_answerOf_5 ⟨Nat.zero_le _, Nat.zero_le _⟩) (fun r5 h => ?_)
  refine lv_if_ne (tgt := 17) hx hb dX4_answerOf_8 (by decide) (fun c8 => ?_) (fun c8 => ?_)
  · replace h := And.right h c8
    refine lv_aload_n hx hb dX4_answerOf_17 rfl (lv_at hl 0 rfl) ?_
    refine va_get (D := D) (ci := 4) (v := .ref (ag 99)) (C := RX4) (T := TX4) (N := 12) hx hb htB ziX4 hown hK hP 0 rfl rfl 7 (by decide) (htB _ zm_165) (fun _ h9 => h9) rfl dX4_answerOf_18 ?_
    refine lv_aload_n hx hb dX4_answerOf_21 rfl (lv_at hl 0 rfl) ?_
    refine va_get (D := D) (ci := 4) (v := .ref (an 99)) (C := RX4) (T := TX4) (N := 12) hx hb htB ziX4 hown hK hP 0 rfl rfl 0 (by decide) (htB _ zm_155) (fun _ h9 => h9) rfl dX4_answerOf_22 ?_
    have hPc : va_P D zCl ((bX1 ag cy Sg) ++ ((bX3 an cy Sn))) H := hP.sub [7, 8, 9, 10, 11, 12, 13, 14, 15, 16, 17, 4, 5, 6] rfl
    have hDc : va_D A ((bX1 ag cy Sg) ++ ((bX3 an cy Sn))) := hD.sub [7, 8, 9, 10, 11, 12, 13, 14, 15, 16, 17, 4, 5, 6] (by decide) rfl
    refine zc_v (ws' := fun u => ((bX4 ah an am af ai aj al ag cy S) ++ ((bX3 an cy Sn) ++ ((bX1 ag cy u))))) (va_runV (As := [.ref (an 99)]) (rest := []) ⟨hx, hb, hml, hown, htB⟩ (c_X1_run l D cy ag an H.size Sn Sg h) (cwV 1 htB (zgV zm_166 zm_168 zm_169 zm_57 zm_167) rfl rfl rfl hd_X1_run ⟨Nat.le_of_ble_eq_true rfl, Nat.le_of_ble_eq_true rfl⟩) ⟨zM_blind, va_recv hK hP (ci := 1) (q0 := 7) rfl rfl, zM_pre hPc hK hN hDc⟩ rfl rfl hl.1 rfl (lv_room (Nat.le_of_ble_eq_true rfl)) dX4_answerOf_25 ⟨Nat.zero_le _, Nat.zero_le _⟩) hS hA hP hD [7, 8, 9, 10, 11, 12, 13, 14, 15, 16, 17, 4, 5, 6] [0, 1, 2, 3] [0, 1, 2, 3, 15, 16, 17, 4, 5, 6, 7, 8, 9, 10, 11, 12, 13, 14] (by decide) rfl (by decide) (by decide) rfl (fun u => rfl) (fun u => rfl) (fun u => rfl) (fun u H locs h hP hD hS => ?_)
    obtain ⟨Sg_25, eu⟩ : ∃ z, z = u := ⟨_, rfl⟩
    subst eu
    replace hP : va_P D zCl ((bX4 ah an am af ai aj al ag cy S) ++ ((bX3 an cy Sn) ++ ((bX1 ag cy Sg_25)))) H := hP
    replace hD : va_D A ((bX4 ah an am af ai aj al ag cy S) ++ ((bX3 an cy Sn) ++ ((bX1 ag cy Sg_25)))) := hD
    refine lv_aload_n hx hb dX4_answerOf_28 rfl (lv_at hl 1 rfl) ?_
    refine lv_iload_n hx hb dX4_answerOf_29 rfl (lv_at hl 2 rfl) ?_
    have hPc : va_P D zCl [((ag 1), .inl (cy, 8, .inl (Sg_25 1)))] H := hP.sub [9] rfl
    refine zc_r (va_runS (As := [.ref (ag 1), .int i2]) (rest := []) ⟨hx, hb, hml, hown, htB⟩ (c_X4_at l D cy (ag 1) 8 (Sg_25 1) i2 h) (cwS 2 htB (zgS zm_143 zm_14 zm_4 zm_13) rfl rfl rfl hd_X4_at ⟨Nat.le_of_ble_eq_true rfl, Nat.le_of_ble_eq_true rfl⟩) ⟨zR_blind, zR_pre hPc hK hN⟩ rfl rfl hl.1 rfl (lv_room (Nat.le_of_ble_eq_true rfl)) dX4_answerOf_30 ⟨Nat.zero_le _, Nat.zero_le _⟩) (fun r30 h => ?_)
    exact W.iret (v := r30) hx hb hr (fun t ht hW => ⟨⟨_, (S, Sg_25), rfl, h, zP_h ht hP⟩, hS.F ht⟩) hS.2.2 dX4_answerOf_33
  · replace h := And.left h c8
    refine lv_aload_n hx hb dX4_answerOf_11 rfl (lv_at hl 0 rfl) ?_
    refine lv_iconst (v := (-1 : Int32)) hx hb dX4_answerOf_12 (by decide) ?_
    have hPc : va_P D zCl (bX4 ah an am af ai aj al ag cy S) H := hP.sub [0, 1, 2, 3] rfl
    have hDc : va_D A (bX4 ah an am af ai aj al ag cy S) := hD.sub [0, 1, 2, 3] (by decide) rfl
    refine zc_i (ws' := fun u => ((bX4 ah an am af ai aj al ag cy u) ++ ((bX3 an cy Sn) ++ ((bX1 ag cy Sg))))) (va_runV (As := [.int (-1 : Int32)]) (rest := []) ⟨hx, hb, hml, hown, htB⟩ (c_X4_refuse l D cy ah an am af ai aj al ag H.size (-1 : Int32) S h) (cwV 1 htB (zgV zm_145 zm_147 zm_148 zm_4 zm_146) rfl rfl rfl hd_X4_refuse ⟨Nat.le_of_ble_eq_true rfl, Nat.le_of_ble_eq_true rfl⟩) ⟨zM_blind, va_recv hK hP (ci := 4) (q0 := 0) rfl rfl, zM_pre hPc hK hN hDc⟩ rfl rfl hl.1 rfl (lv_room (Nat.le_of_ble_eq_true rfl)) dX4_answerOf_13 ⟨Nat.zero_le _, Nat.zero_le _⟩) hS hA hP hD [0, 1, 2, 3] [4, 5, 6, 7, 8, 9, 10, 11, 12, 13, 14, 15, 16, 17] [14, 15, 16, 17, 0, 1, 2, 3, 4, 5, 6, 7, 8, 9, 10, 11, 12, 13] (by decide) rfl (by decide) (by decide) rfl (fun u => rfl) (fun u => rfl) (fun u => rfl) (fun r13 u H locs h hP hD hS => ?_)
    obtain ⟨S_13, eu⟩ : ∃ z, z = u := ⟨_, rfl⟩
    subst eu
    replace hP : va_P D zCl ((bX4 ah an am af ai aj al ag cy S_13) ++ ((bX3 an cy Sn) ++ ((bX1 ag cy Sg)))) H := hP
    replace hD : va_D A ((bX4 ah an am af ai aj al ag cy S_13) ++ ((bX3 an cy Sn) ++ ((bX1 ag cy Sg)))) := hD
    exact W.iret (v := r13) hx hb hr (fun t ht hW => ⟨⟨_, (S_13, Sg), rfl, h, zP_h ht hP⟩, hS.F ht⟩) hS.2.2 dX4_answerOf_16
set_option maxHeartbeats 4000000 in
set_option maxRecDepth 100000 in
theorem c_X4_comes (l : Launch) (D : va_G) (cy : ClassId) (ah : Nat → Nat) (an : Nat → Nat) (am : Nat → Nat) (af : Nat → Nat) (ai : Nat → Nat) (aj : Nat → Nat) (al : Nat → Nat) (ag : Nat → Nat) (sz : Nat) (Sn : zT) (i1 : Int32) (S : zT) (Sg : zT) {Q : Int32 → zT → zT → Prop} (h : wp_X4_comes Sn i1 S Sg Q) : Met l yX4_comes w_X4_comes rm_X4_comes (va_Pc [.ref (ah 99), .int i1] (zM D cy ((bX4 ah an am af ai aj al ag cy S) ++ ((bX3 an cy Sn) ++ ((bX1 ag cy Sg)))) sz)) (va_Qi (S := zT × zT) (fun (r : Int32) (u : zT × zT) => Q r (u.1) (u.2)) (fun u t => va_P D zCl ((fun (u : zT × zT) => ((bX4 ah an am af ai aj al ag cy (u.1)) ++ ((bX3 an cy Sn) ++ ((bX1 ag cy (u.2)))))) u) t.heap) (va_A ((bX4 ah an am af ai aj al ag cy S) ++ ((bX3 an cy Sn) ++ ((bX1 ag cy Sg)))) sz)) 0 0 (va_A ((bX4 ah an am af ai aj al ag cy S) ++ ((bX3 an cy Sn) ++ ((bX1 ag cy Sg)))) sz) := by
  refine zOf_i (by decide) (Nat.le_of_ble_eq_true rfl) ?_
  intro p e s m below meth c ls A H locs hx hb hr hml hown htB hlocks hK hN hP hD hS hA hl
  replace hl : lv_has ls 2 [(0, .ref (ah 99)), (1, .int i1)] := hl
  refine lv_aload_n hx hb dX4_comes_0 rfl (lv_at hl 0 rfl) ?_
  refine lv_aload_n hx hb dX4_comes_1 rfl (lv_at hl 0 rfl) ?_
  refine va_get (D := D) (ci := 4) (v := .ref (ag 99)) (C := RX4) (T := TX4) (N := 12) hx hb htB ziX4 hown hK hP 0 rfl rfl 7 (by decide) (htB _ zm_165) (fun _ h9 => h9) rfl dX4_comes_2 ?_
  refine va_getN (D := D) (ci := 1) (v := .ref (ag 1)) (C := RX1) (T := TX1) (N := 11) hx hb htB ziX1 hown hK hP 7 rfl rfl 1 (by decide) (va_Nw.use rfl (hN _ zm_171)) (fun _ h9 => h9) rfl dX4_comes_5 ?_
  refine lv_iload_n hx hb dX4_comes_8 rfl (lv_at hl 1 rfl) ?_
  refine zc_if (ws' := fun u => ((bX4 ah an am af ai aj al ag cy (u.1)) ++ ((bX3 an cy Sn) ++ ((bX1 ag cy (u.2)))))) (va_runV (As := [.ref (ag 1), .int i1]) (rest := []) ⟨hx, hb, hml, hown, htB⟩ (c_X4_answerOf_k1 l D cy ah an am af ai aj al ag H.size Sn i1 S Sg h) (cwV 2 htB (zgV zm_172 zm_174 zm_175 zm_4 zm_173) rfl rfl rfl hd_X4_answerOf ⟨Nat.le_of_ble_eq_true rfl, Nat.le_of_ble_eq_true rfl⟩) ⟨zM_blind, va_recv hK hP (ci := 4) (q0 := 0) rfl rfl, zM_pre hP hK hN hD⟩ rfl rfl hl.1 rfl (lv_room (Nat.le_of_ble_eq_true rfl)) dX4_comes_9 ⟨Nat.zero_le _, Nat.zero_le _⟩) hS hA hP hD (fun u => rfl) (fun u => rfl) (fun r9 u H locs h hP hD hS => ?_)
  obtain ⟨S_9, Sg_9⟩ := u
  replace hP : va_P D zCl ((bX4 ah an am af ai aj al ag cy S_9) ++ ((bX3 an cy Sn) ++ ((bX1 ag cy Sg_9)))) H := hP
  replace hD : va_D A ((bX4 ah an am af ai aj al ag cy S_9) ++ ((bX3 an cy Sn) ++ ((bX1 ag cy Sg_9)))) := hD
  exact W.iret (v := r9) hx hb hr (fun t ht hW => ⟨⟨_, (S_9, Sg_9), rfl, h, zP_h ht hP⟩, hS.F ht⟩) hS.2.2 dX4_comes_12
set_option maxHeartbeats 4000000 in
set_option maxRecDepth 100000 in
theorem c_X4_answerOf_k2 (l : Launch) (D : va_G) (cy : ClassId) (ah : Nat → Nat) (an : Nat → Nat) (am : Nat → Nat) (af : Nat → Nat) (ai : Nat → Nat) (aj : Nat → Nat) (al : Nat → Nat) (ag : Nat → Nat) (sz : Nat) (Sn : zT) (i2 : Int32) (S : zT) (Sg : zT) {Q : Int32 → zT → zT → Prop} (h : wp_X4_answerOf_k2 Sn i2 S Sg Q) : Met l yX4_answerOf w_X4_answerOf rm_X4_answerOf_k2 (va_Pc [.ref (ah 99), .ref (ag 2), .int i2] (zM D cy ((bX4 ah an am af ai aj al ag cy S) ++ ((bX3 an cy Sn) ++ ((bX1 ag cy Sg)))) sz)) (va_Qi (S := zT × zT) (fun (r : Int32) (u : zT × zT) => Q r (u.1) (u.2)) (fun u t => va_P D zCl ((fun (u : zT × zT) => ((bX4 ah an am af ai aj al ag cy (u.1)) ++ ((bX3 an cy Sn) ++ ((bX1 ag cy (u.2)))))) u) t.heap) (va_A ((bX4 ah an am af ai aj al ag cy S) ++ ((bX3 an cy Sn) ++ ((bX1 ag cy Sg)))) sz)) 0 0 (va_A ((bX4 ah an am af ai aj al ag cy S) ++ ((bX3 an cy Sn) ++ ((bX1 ag cy Sg)))) sz) := by
  refine zOf_i (by decide) (Nat.le_of_ble_eq_true rfl) ?_
  intro p e s m below meth c ls A H locs hx hb hr hml hown htB hlocks hK hN hP hD hS hA hl
  replace hl : lv_has ls 3 [(0, .ref (ah 99)), (1, .ref (ag 2)), (2, .int i2)] := hl
  refine lv_aload_n hx hb dX4_answerOf_0 rfl (lv_at hl 0 rfl) ?_
  refine va_get (D := D) (ci := 4) (v := .ref (an 99)) (C := RX4) (T := TX4) (N := 12) hx hb htB ziX4 hown hK hP 0 rfl rfl 0 (by decide) (htB _ zm_155) (fun _ h9 => h9) rfl dX4_answerOf_1 ?_
  refine lv_iload_n hx hb dX4_answerOf_4 rfl (lv_at hl 2 rfl) ?_
  have hPc : va_P D zCl (bX3 an cy Sn) H := hP.sub [4, 5, 6] rfl
  refine zc_r (va_runV (As := [.int i2]) (rest := []) ⟨hx, hb, hml, hown, htB⟩ (c_X3_has l D cy an Sn i2 h) (cwV 1 htB (zgV zm_156 zm_139 zm_140 zm_28 zm_138) rfl rfl rfl hd_X3_has ⟨Nat.le_of_ble_eq_true rfl, Nat.le_of_ble_eq_true rfl⟩) ⟨zR_blind, va_recv hK hP (ci := 3) (q0 := 4) rfl rfl, zR_pre hPc hK hN⟩ rfl rfl hl.1 rfl (lv_room (Nat.le_of_ble_eq_true rfl)) dX4_answerOf_5 ⟨Nat.zero_le _, Nat.zero_le _⟩) (fun r5 h => ?_)
  refine lv_if_ne (tgt := 17) hx hb dX4_answerOf_8 (by decide) (fun c8 => ?_) (fun c8 => ?_)
  · replace h := And.right h c8
    refine lv_aload_n hx hb dX4_answerOf_17 rfl (lv_at hl 0 rfl) ?_
    refine va_get (D := D) (ci := 4) (v := .ref (ag 99)) (C := RX4) (T := TX4) (N := 12) hx hb htB ziX4 hown hK hP 0 rfl rfl 7 (by decide) (htB _ zm_165) (fun _ h9 => h9) rfl dX4_answerOf_18 ?_
    refine lv_aload_n hx hb dX4_answerOf_21 rfl (lv_at hl 0 rfl) ?_
    refine va_get (D := D) (ci := 4) (v := .ref (an 99)) (C := RX4) (T := TX4) (N := 12) hx hb htB ziX4 hown hK hP 0 rfl rfl 0 (by decide) (htB _ zm_155) (fun _ h9 => h9) rfl dX4_answerOf_22 ?_
    have hPc : va_P D zCl ((bX1 ag cy Sg) ++ ((bX3 an cy Sn))) H := hP.sub [7, 8, 9, 10, 11, 12, 13, 14, 15, 16, 17, 4, 5, 6] rfl
    have hDc : va_D A ((bX1 ag cy Sg) ++ ((bX3 an cy Sn))) := hD.sub [7, 8, 9, 10, 11, 12, 13, 14, 15, 16, 17, 4, 5, 6] (by decide) rfl
    refine zc_v (ws' := fun u => ((bX4 ah an am af ai aj al ag cy S) ++ ((bX3 an cy Sn) ++ ((bX1 ag cy u))))) (va_runV (As := [.ref (an 99)]) (rest := []) ⟨hx, hb, hml, hown, htB⟩ (c_X1_run l D cy ag an H.size Sn Sg h) (cwV 1 htB (zgV zm_166 zm_168 zm_169 zm_57 zm_167) rfl rfl rfl hd_X1_run ⟨Nat.le_of_ble_eq_true rfl, Nat.le_of_ble_eq_true rfl⟩) ⟨zM_blind, va_recv hK hP (ci := 1) (q0 := 7) rfl rfl, zM_pre hPc hK hN hDc⟩ rfl rfl hl.1 rfl (lv_room (Nat.le_of_ble_eq_true rfl)) dX4_answerOf_25 ⟨Nat.zero_le _, Nat.zero_le _⟩) hS hA hP hD [7, 8, 9, 10, 11, 12, 13, 14, 15, 16, 17, 4, 5, 6] [0, 1, 2, 3] [0, 1, 2, 3, 15, 16, 17, 4, 5, 6, 7, 8, 9, 10, 11, 12, 13, 14] (by decide) rfl (by decide) (by decide) rfl (fun u => rfl) (fun u => rfl) (fun u => rfl) (fun u H locs h hP hD hS => ?_)
    obtain ⟨Sg_25, eu⟩ : ∃ z, z = u := ⟨_, rfl⟩
    subst eu
    replace hP : va_P D zCl ((bX4 ah an am af ai aj al ag cy S) ++ ((bX3 an cy Sn) ++ ((bX1 ag cy Sg_25)))) H := hP
    replace hD : va_D A ((bX4 ah an am af ai aj al ag cy S) ++ ((bX3 an cy Sn) ++ ((bX1 ag cy Sg_25)))) := hD
    refine lv_aload_n hx hb dX4_answerOf_28 rfl (lv_at hl 1 rfl) ?_
    refine lv_iload_n hx hb dX4_answerOf_29 rfl (lv_at hl 2 rfl) ?_
    have hPc : va_P D zCl [((ag 2), .inl (cy, 8, .inl (Sg_25 2)))] H := hP.sub [10] rfl
    refine zc_r (va_runS (As := [.ref (ag 2), .int i2]) (rest := []) ⟨hx, hb, hml, hown, htB⟩ (c_X4_at l D cy (ag 2) 8 (Sg_25 2) i2 h) (cwS 2 htB (zgS zm_143 zm_14 zm_4 zm_13) rfl rfl rfl hd_X4_at ⟨Nat.le_of_ble_eq_true rfl, Nat.le_of_ble_eq_true rfl⟩) ⟨zR_blind, zR_pre hPc hK hN⟩ rfl rfl hl.1 rfl (lv_room (Nat.le_of_ble_eq_true rfl)) dX4_answerOf_30 ⟨Nat.zero_le _, Nat.zero_le _⟩) (fun r30 h => ?_)
    exact W.iret (v := r30) hx hb hr (fun t ht hW => ⟨⟨_, (S, Sg_25), rfl, h, zP_h ht hP⟩, hS.F ht⟩) hS.2.2 dX4_answerOf_33
  · replace h := And.left h c8
    refine lv_aload_n hx hb dX4_answerOf_11 rfl (lv_at hl 0 rfl) ?_
    refine lv_iconst (v := (-1 : Int32)) hx hb dX4_answerOf_12 (by decide) ?_
    have hPc : va_P D zCl (bX4 ah an am af ai aj al ag cy S) H := hP.sub [0, 1, 2, 3] rfl
    have hDc : va_D A (bX4 ah an am af ai aj al ag cy S) := hD.sub [0, 1, 2, 3] (by decide) rfl
    refine zc_i (ws' := fun u => ((bX4 ah an am af ai aj al ag cy u) ++ ((bX3 an cy Sn) ++ ((bX1 ag cy Sg))))) (va_runV (As := [.int (-1 : Int32)]) (rest := []) ⟨hx, hb, hml, hown, htB⟩ (c_X4_refuse l D cy ah an am af ai aj al ag H.size (-1 : Int32) S h) (cwV 1 htB (zgV zm_145 zm_147 zm_148 zm_4 zm_146) rfl rfl rfl hd_X4_refuse ⟨Nat.le_of_ble_eq_true rfl, Nat.le_of_ble_eq_true rfl⟩) ⟨zM_blind, va_recv hK hP (ci := 4) (q0 := 0) rfl rfl, zM_pre hPc hK hN hDc⟩ rfl rfl hl.1 rfl (lv_room (Nat.le_of_ble_eq_true rfl)) dX4_answerOf_13 ⟨Nat.zero_le _, Nat.zero_le _⟩) hS hA hP hD [0, 1, 2, 3] [4, 5, 6, 7, 8, 9, 10, 11, 12, 13, 14, 15, 16, 17] [14, 15, 16, 17, 0, 1, 2, 3, 4, 5, 6, 7, 8, 9, 10, 11, 12, 13] (by decide) rfl (by decide) (by decide) rfl (fun u => rfl) (fun u => rfl) (fun u => rfl) (fun r13 u H locs h hP hD hS => ?_)
    obtain ⟨S_13, eu⟩ : ∃ z, z = u := ⟨_, rfl⟩
    subst eu
    replace hP : va_P D zCl ((bX4 ah an am af ai aj al ag cy S_13) ++ ((bX3 an cy Sn) ++ ((bX1 ag cy Sg)))) H := hP
    replace hD : va_D A ((bX4 ah an am af ai aj al ag cy S_13) ++ ((bX3 an cy Sn) ++ ((bX1 ag cy Sg)))) := hD
    exact W.iret (v := r13) hx hb hr (fun t ht hW => ⟨⟨_, (S_13, Sg), rfl, h, zP_h ht hP⟩, hS.F ht⟩) hS.2.2 dX4_answerOf_16
set_option maxHeartbeats 4000000 in
set_option maxRecDepth 100000 in
theorem c_X4_through (l : Launch) (D : va_G) (cy : ClassId) (ah : Nat → Nat) (an : Nat → Nat) (am : Nat → Nat) (af : Nat → Nat) (ai : Nat → Nat) (aj : Nat → Nat) (al : Nat → Nat) (ag : Nat → Nat) (sz : Nat) (Sn : zT) (i1 : Int32) (S : zT) (Sg : zT) {Q : Int32 → zT → zT → Prop} (h : wp_X4_through Sn i1 S Sg Q) : Met l yX4_through w_X4_through rm_X4_through (va_Pc [.ref (ah 99), .int i1] (zM D cy ((bX4 ah an am af ai aj al ag cy S) ++ ((bX3 an cy Sn) ++ ((bX1 ag cy Sg)))) sz)) (va_Qi (S := zT × zT) (fun (r : Int32) (u : zT × zT) => Q r (u.1) (u.2)) (fun u t => va_P D zCl ((fun (u : zT × zT) => ((bX4 ah an am af ai aj al ag cy (u.1)) ++ ((bX3 an cy Sn) ++ ((bX1 ag cy (u.2)))))) u) t.heap) (va_A ((bX4 ah an am af ai aj al ag cy S) ++ ((bX3 an cy Sn) ++ ((bX1 ag cy Sg)))) sz)) 0 0 (va_A ((bX4 ah an am af ai aj al ag cy S) ++ ((bX3 an cy Sn) ++ ((bX1 ag cy Sg)))) sz) := by
  refine zOf_i (by decide) (Nat.le_of_ble_eq_true rfl) ?_
  intro p e s m below meth c ls A H locs hx hb hr hml hown htB hlocks hK hN hP hD hS hA hl
  replace hl : lv_has ls 2 [(0, .ref (ah 99)), (1, .int i1)] := hl
  refine lv_aload_n hx hb dX4_through_0 rfl (lv_at hl 0 rfl) ?_
  refine lv_aload_n hx hb dX4_through_1 rfl (lv_at hl 0 rfl) ?_
  refine va_get (D := D) (ci := 4) (v := .ref (ag 99)) (C := RX4) (T := TX4) (N := 12) hx hb htB ziX4 hown hK hP 0 rfl rfl 7 (by decide) (htB _ zm_165) (fun _ h9 => h9) rfl dX4_through_2 ?_
  refine va_getN (D := D) (ci := 1) (v := .ref (ag 2)) (C := RX1) (T := TX1) (N := 11) hx hb htB ziX1 hown hK hP 7 rfl rfl 2 (by decide) (va_Nw.use rfl (hN _ zm_176)) (fun _ h9 => h9) rfl dX4_through_5 ?_
  refine lv_iload_n hx hb dX4_through_8 rfl (lv_at hl 1 rfl) ?_
  refine zc_if (ws' := fun u => ((bX4 ah an am af ai aj al ag cy (u.1)) ++ ((bX3 an cy Sn) ++ ((bX1 ag cy (u.2)))))) (va_runV (As := [.ref (ag 2), .int i1]) (rest := []) ⟨hx, hb, hml, hown, htB⟩ (c_X4_answerOf_k2 l D cy ah an am af ai aj al ag H.size Sn i1 S Sg h) (cwV 2 htB (zgV zm_172 zm_174 zm_175 zm_4 zm_173) rfl rfl rfl hd_X4_answerOf ⟨Nat.le_of_ble_eq_true rfl, Nat.le_of_ble_eq_true rfl⟩) ⟨zM_blind, va_recv hK hP (ci := 4) (q0 := 0) rfl rfl, zM_pre hP hK hN hD⟩ rfl rfl hl.1 rfl (lv_room (Nat.le_of_ble_eq_true rfl)) dX4_through_9 ⟨Nat.zero_le _, Nat.zero_le _⟩) hS hA hP hD (fun u => rfl) (fun u => rfl) (fun r9 u H locs h hP hD hS => ?_)
  obtain ⟨S_9, Sg_9⟩ := u
  replace hP : va_P D zCl ((bX4 ah an am af ai aj al ag cy S_9) ++ ((bX3 an cy Sn) ++ ((bX1 ag cy Sg_9)))) H := hP
  replace hD : va_D A ((bX4 ah an am af ai aj al ag cy S_9) ++ ((bX3 an cy Sn) ++ ((bX1 ag cy Sg_9)))) := hD
  exact W.iret (v := r9) hx hb hr (fun t ht hW => ⟨⟨_, (S_9, Sg_9), rfl, h, zP_h ht hP⟩, hS.F ht⟩) hS.2.2 dX4_through_12
set_option maxHeartbeats 4000000 in
set_option maxRecDepth 100000 in
theorem c_X4_answerOf_k3 (l : Launch) (D : va_G) (cy : ClassId) (ah : Nat → Nat) (an : Nat → Nat) (am : Nat → Nat) (af : Nat → Nat) (ai : Nat → Nat) (aj : Nat → Nat) (al : Nat → Nat) (ag : Nat → Nat) (sz : Nat) (Sn : zT) (i2 : Int32) (S : zT) (Sg : zT) {Q : Int32 → zT → zT → Prop} (h : wp_X4_answerOf_k3 Sn i2 S Sg Q) : Met l yX4_answerOf w_X4_answerOf rm_X4_answerOf_k3 (va_Pc [.ref (ah 99), .ref (ag 3), .int i2] (zM D cy ((bX4 ah an am af ai aj al ag cy S) ++ ((bX3 an cy Sn) ++ ((bX1 ag cy Sg)))) sz)) (va_Qi (S := zT × zT) (fun (r : Int32) (u : zT × zT) => Q r (u.1) (u.2)) (fun u t => va_P D zCl ((fun (u : zT × zT) => ((bX4 ah an am af ai aj al ag cy (u.1)) ++ ((bX3 an cy Sn) ++ ((bX1 ag cy (u.2)))))) u) t.heap) (va_A ((bX4 ah an am af ai aj al ag cy S) ++ ((bX3 an cy Sn) ++ ((bX1 ag cy Sg)))) sz)) 0 0 (va_A ((bX4 ah an am af ai aj al ag cy S) ++ ((bX3 an cy Sn) ++ ((bX1 ag cy Sg)))) sz) := by
  refine zOf_i (by decide) (Nat.le_of_ble_eq_true rfl) ?_
  intro p e s m below meth c ls A H locs hx hb hr hml hown htB hlocks hK hN hP hD hS hA hl
  replace hl : lv_has ls 3 [(0, .ref (ah 99)), (1, .ref (ag 3)), (2, .int i2)] := hl
  refine lv_aload_n hx hb dX4_answerOf_0 rfl (lv_at hl 0 rfl) ?_
  refine va_get (D := D) (ci := 4) (v := .ref (an 99)) (C := RX4) (T := TX4) (N := 12) hx hb htB ziX4 hown hK hP 0 rfl rfl 0 (by decide) (htB _ zm_155) (fun _ h9 => h9) rfl dX4_answerOf_1 ?_
  refine lv_iload_n hx hb dX4_answerOf_4 rfl (lv_at hl 2 rfl) ?_
  have hPc : va_P D zCl (bX3 an cy Sn) H := hP.sub [4, 5, 6] rfl
  refine zc_r (va_runV (As := [.int i2]) (rest := []) ⟨hx, hb, hml, hown, htB⟩ (c_X3_has l D cy an Sn i2 h) (cwV 1 htB (zgV zm_156 zm_139 zm_140 zm_28 zm_138) rfl rfl rfl hd_X3_has ⟨Nat.le_of_ble_eq_true rfl, Nat.le_of_ble_eq_true rfl⟩) ⟨zR_blind, va_recv hK hP (ci := 3) (q0 := 4) rfl rfl, zR_pre hPc hK hN⟩ rfl rfl hl.1 rfl (lv_room (Nat.le_of_ble_eq_true rfl)) dX4_answerOf_5 ⟨Nat.zero_le _, Nat.zero_le _⟩) (fun r5 h => ?_)
  refine lv_if_ne (tgt := 17) hx hb dX4_answerOf_8 (by decide) (fun c8 => ?_) (fun c8 => ?_)
  · replace h := And.right h c8
    refine lv_aload_n hx hb dX4_answerOf_17 rfl (lv_at hl 0 rfl) ?_
    refine va_get (D := D) (ci := 4) (v := .ref (ag 99)) (C := RX4) (T := TX4) (N := 12) hx hb htB ziX4 hown hK hP 0 rfl rfl 7 (by decide) (htB _ zm_165) (fun _ h9 => h9) rfl dX4_answerOf_18 ?_
    refine lv_aload_n hx hb dX4_answerOf_21 rfl (lv_at hl 0 rfl) ?_
    refine va_get (D := D) (ci := 4) (v := .ref (an 99)) (C := RX4) (T := TX4) (N := 12) hx hb htB ziX4 hown hK hP 0 rfl rfl 0 (by decide) (htB _ zm_155) (fun _ h9 => h9) rfl dX4_answerOf_22 ?_
    have hPc : va_P D zCl ((bX1 ag cy Sg) ++ ((bX3 an cy Sn))) H := hP.sub [7, 8, 9, 10, 11, 12, 13, 14, 15, 16, 17, 4, 5, 6] rfl
    have hDc : va_D A ((bX1 ag cy Sg) ++ ((bX3 an cy Sn))) := hD.sub [7, 8, 9, 10, 11, 12, 13, 14, 15, 16, 17, 4, 5, 6] (by decide) rfl
    refine zc_v (ws' := fun u => ((bX4 ah an am af ai aj al ag cy S) ++ ((bX3 an cy Sn) ++ ((bX1 ag cy u))))) (va_runV (As := [.ref (an 99)]) (rest := []) ⟨hx, hb, hml, hown, htB⟩ (c_X1_run l D cy ag an H.size Sn Sg h) (cwV 1 htB (zgV zm_166 zm_168 zm_169 zm_57 zm_167) rfl rfl rfl hd_X1_run ⟨Nat.le_of_ble_eq_true rfl, Nat.le_of_ble_eq_true rfl⟩) ⟨zM_blind, va_recv hK hP (ci := 1) (q0 := 7) rfl rfl, zM_pre hPc hK hN hDc⟩ rfl rfl hl.1 rfl (lv_room (Nat.le_of_ble_eq_true rfl)) dX4_answerOf_25 ⟨Nat.zero_le _, Nat.zero_le _⟩) hS hA hP hD [7, 8, 9, 10, 11, 12, 13, 14, 15, 16, 17, 4, 5, 6] [0, 1, 2, 3] [0, 1, 2, 3, 15, 16, 17, 4, 5, 6, 7, 8, 9, 10, 11, 12, 13, 14] (by decide) rfl (by decide) (by decide) rfl (fun u => rfl) (fun u => rfl) (fun u => rfl) (fun u H locs h hP hD hS => ?_)
    obtain ⟨Sg_25, eu⟩ : ∃ z, z = u := ⟨_, rfl⟩
    subst eu
    replace hP : va_P D zCl ((bX4 ah an am af ai aj al ag cy S) ++ ((bX3 an cy Sn) ++ ((bX1 ag cy Sg_25)))) H := hP
    replace hD : va_D A ((bX4 ah an am af ai aj al ag cy S) ++ ((bX3 an cy Sn) ++ ((bX1 ag cy Sg_25)))) := hD
    refine lv_aload_n hx hb dX4_answerOf_28 rfl (lv_at hl 1 rfl) ?_
    refine lv_iload_n hx hb dX4_answerOf_29 rfl (lv_at hl 2 rfl) ?_
    have hPc : va_P D zCl [((ag 3), .inl (cy, 8, .inl (Sg_25 3)))] H := hP.sub [11] rfl
    refine zc_r (va_runS (As := [.ref (ag 3), .int i2]) (rest := []) ⟨hx, hb, hml, hown, htB⟩ (c_X4_at l D cy (ag 3) 8 (Sg_25 3) i2 h) (cwS 2 htB (zgS zm_143 zm_14 zm_4 zm_13) rfl rfl rfl hd_X4_at ⟨Nat.le_of_ble_eq_true rfl, Nat.le_of_ble_eq_true rfl⟩) ⟨zR_blind, zR_pre hPc hK hN⟩ rfl rfl hl.1 rfl (lv_room (Nat.le_of_ble_eq_true rfl)) dX4_answerOf_30 ⟨Nat.zero_le _, Nat.zero_le _⟩) (fun r30 h => ?_)
    exact W.iret (v := r30) hx hb hr (fun t ht hW => ⟨⟨_, (S, Sg_25), rfl, h, zP_h ht hP⟩, hS.F ht⟩) hS.2.2 dX4_answerOf_33
  · replace h := And.left h c8
    refine lv_aload_n hx hb dX4_answerOf_11 rfl (lv_at hl 0 rfl) ?_
    refine lv_iconst (v := (-1 : Int32)) hx hb dX4_answerOf_12 (by decide) ?_
    have hPc : va_P D zCl (bX4 ah an am af ai aj al ag cy S) H := hP.sub [0, 1, 2, 3] rfl
    have hDc : va_D A (bX4 ah an am af ai aj al ag cy S) := hD.sub [0, 1, 2, 3] (by decide) rfl
    refine zc_i (ws' := fun u => ((bX4 ah an am af ai aj al ag cy u) ++ ((bX3 an cy Sn) ++ ((bX1 ag cy Sg))))) (va_runV (As := [.int (-1 : Int32)]) (rest := []) ⟨hx, hb, hml, hown, htB⟩ (c_X4_refuse l D cy ah an am af ai aj al ag H.size (-1 : Int32) S h) (cwV 1 htB (zgV zm_145 zm_147 zm_148 zm_4 zm_146) rfl rfl rfl hd_X4_refuse ⟨Nat.le_of_ble_eq_true rfl, Nat.le_of_ble_eq_true rfl⟩) ⟨zM_blind, va_recv hK hP (ci := 4) (q0 := 0) rfl rfl, zM_pre hPc hK hN hDc⟩ rfl rfl hl.1 rfl (lv_room (Nat.le_of_ble_eq_true rfl)) dX4_answerOf_13 ⟨Nat.zero_le _, Nat.zero_le _⟩) hS hA hP hD [0, 1, 2, 3] [4, 5, 6, 7, 8, 9, 10, 11, 12, 13, 14, 15, 16, 17] [14, 15, 16, 17, 0, 1, 2, 3, 4, 5, 6, 7, 8, 9, 10, 11, 12, 13] (by decide) rfl (by decide) (by decide) rfl (fun u => rfl) (fun u => rfl) (fun u => rfl) (fun r13 u H locs h hP hD hS => ?_)
    obtain ⟨S_13, eu⟩ : ∃ z, z = u := ⟨_, rfl⟩
    subst eu
    replace hP : va_P D zCl ((bX4 ah an am af ai aj al ag cy S_13) ++ ((bX3 an cy Sn) ++ ((bX1 ag cy Sg)))) H := hP
    replace hD : va_D A ((bX4 ah an am af ai aj al ag cy S_13) ++ ((bX3 an cy Sn) ++ ((bX1 ag cy Sg)))) := hD
    exact W.iret (v := r13) hx hb hr (fun t ht hW => ⟨⟨_, (S_13, Sg), rfl, h, zP_h ht hP⟩, hS.F ht⟩) hS.2.2 dX4_answerOf_16
set_option maxHeartbeats 4000000 in
set_option maxRecDepth 100000 in
theorem c_X4_opens (l : Launch) (D : va_G) (cy : ClassId) (ah : Nat → Nat) (an : Nat → Nat) (am : Nat → Nat) (af : Nat → Nat) (ai : Nat → Nat) (aj : Nat → Nat) (al : Nat → Nat) (ag : Nat → Nat) (sz : Nat) (Sn : zT) (i1 : Int32) (S : zT) (Sg : zT) {Q : Int32 → zT → zT → Prop} (h : wp_X4_opens Sn i1 S Sg Q) : Met l yX4_opens w_X4_opens rm_X4_opens (va_Pc [.ref (ah 99), .int i1] (zM D cy ((bX4 ah an am af ai aj al ag cy S) ++ ((bX3 an cy Sn) ++ ((bX1 ag cy Sg)))) sz)) (va_Qi (S := zT × zT) (fun (r : Int32) (u : zT × zT) => Q r (u.1) (u.2)) (fun u t => va_P D zCl ((fun (u : zT × zT) => ((bX4 ah an am af ai aj al ag cy (u.1)) ++ ((bX3 an cy Sn) ++ ((bX1 ag cy (u.2)))))) u) t.heap) (va_A ((bX4 ah an am af ai aj al ag cy S) ++ ((bX3 an cy Sn) ++ ((bX1 ag cy Sg)))) sz)) 0 0 (va_A ((bX4 ah an am af ai aj al ag cy S) ++ ((bX3 an cy Sn) ++ ((bX1 ag cy Sg)))) sz) := by
  refine zOf_i (by decide) (Nat.le_of_ble_eq_true rfl) ?_
  intro p e s m below meth c ls A H locs hx hb hr hml hown htB hlocks hK hN hP hD hS hA hl
  replace hl : lv_has ls 2 [(0, .ref (ah 99)), (1, .int i1)] := hl
  refine lv_aload_n hx hb dX4_opens_0 rfl (lv_at hl 0 rfl) ?_
  refine lv_aload_n hx hb dX4_opens_1 rfl (lv_at hl 0 rfl) ?_
  refine va_get (D := D) (ci := 4) (v := .ref (ag 99)) (C := RX4) (T := TX4) (N := 12) hx hb htB ziX4 hown hK hP 0 rfl rfl 7 (by decide) (htB _ zm_165) (fun _ h9 => h9) rfl dX4_opens_2 ?_
  refine va_getN (D := D) (ci := 1) (v := .ref (ag 3)) (C := RX1) (T := TX1) (N := 11) hx hb htB ziX1 hown hK hP 7 rfl rfl 3 (by decide) (va_Nw.use rfl (hN _ zm_177)) (fun _ h9 => h9) rfl dX4_opens_5 ?_
  refine lv_iload_n hx hb dX4_opens_8 rfl (lv_at hl 1 rfl) ?_
  refine zc_if (ws' := fun u => ((bX4 ah an am af ai aj al ag cy (u.1)) ++ ((bX3 an cy Sn) ++ ((bX1 ag cy (u.2)))))) (va_runV (As := [.ref (ag 3), .int i1]) (rest := []) ⟨hx, hb, hml, hown, htB⟩ (c_X4_answerOf_k3 l D cy ah an am af ai aj al ag H.size Sn i1 S Sg h) (cwV 2 htB (zgV zm_172 zm_174 zm_175 zm_4 zm_173) rfl rfl rfl hd_X4_answerOf ⟨Nat.le_of_ble_eq_true rfl, Nat.le_of_ble_eq_true rfl⟩) ⟨zM_blind, va_recv hK hP (ci := 4) (q0 := 0) rfl rfl, zM_pre hP hK hN hD⟩ rfl rfl hl.1 rfl (lv_room (Nat.le_of_ble_eq_true rfl)) dX4_opens_9 ⟨Nat.zero_le _, Nat.zero_le _⟩) hS hA hP hD (fun u => rfl) (fun u => rfl) (fun r9 u H locs h hP hD hS => ?_)
  obtain ⟨S_9, Sg_9⟩ := u
  replace hP : va_P D zCl ((bX4 ah an am af ai aj al ag cy S_9) ++ ((bX3 an cy Sn) ++ ((bX1 ag cy Sg_9)))) H := hP
  replace hD : va_D A ((bX4 ah an am af ai aj al ag cy S_9) ++ ((bX3 an cy Sn) ++ ((bX1 ag cy Sg_9)))) := hD
  exact W.iret (v := r9) hx hb hr (fun t ht hW => ⟨⟨_, (S_9, Sg_9), rfl, h, zP_h ht hP⟩, hS.F ht⟩) hS.2.2 dX4_opens_12
set_option maxHeartbeats 4000000 in
set_option maxRecDepth 100000 in
theorem c_X4_answerOf_k4 (l : Launch) (D : va_G) (cy : ClassId) (ah : Nat → Nat) (an : Nat → Nat) (am : Nat → Nat) (af : Nat → Nat) (ai : Nat → Nat) (aj : Nat → Nat) (al : Nat → Nat) (ag : Nat → Nat) (sz : Nat) (Sn : zT) (i2 : Int32) (S : zT) (Sg : zT) {Q : Int32 → zT → zT → Prop} (h : wp_X4_answerOf_k4 Sn i2 S Sg Q) : Met l yX4_answerOf w_X4_answerOf rm_X4_answerOf_k4 (va_Pc [.ref (ah 99), .ref (ag 4), .int i2] (zM D cy ((bX4 ah an am af ai aj al ag cy S) ++ ((bX3 an cy Sn) ++ ((bX1 ag cy Sg)))) sz)) (va_Qi (S := zT × zT) (fun (r : Int32) (u : zT × zT) => Q r (u.1) (u.2)) (fun u t => va_P D zCl ((fun (u : zT × zT) => ((bX4 ah an am af ai aj al ag cy (u.1)) ++ ((bX3 an cy Sn) ++ ((bX1 ag cy (u.2)))))) u) t.heap) (va_A ((bX4 ah an am af ai aj al ag cy S) ++ ((bX3 an cy Sn) ++ ((bX1 ag cy Sg)))) sz)) 0 0 (va_A ((bX4 ah an am af ai aj al ag cy S) ++ ((bX3 an cy Sn) ++ ((bX1 ag cy Sg)))) sz) := by
  refine zOf_i (by decide) (Nat.le_of_ble_eq_true rfl) ?_
  intro p e s m below meth c ls A H locs hx hb hr hml hown htB hlocks hK hN hP hD hS hA hl
  replace hl : lv_has ls 3 [(0, .ref (ah 99)), (1, .ref (ag 4)), (2, .int i2)] := hl
  refine lv_aload_n hx hb dX4_answerOf_0 rfl (lv_at hl 0 rfl) ?_
  refine va_get (D := D) (ci := 4) (v := .ref (an 99)) (C := RX4) (T := TX4) (N := 12) hx hb htB ziX4 hown hK hP 0 rfl rfl 0 (by decide) (htB _ zm_155) (fun _ h9 => h9) rfl dX4_answerOf_1 ?_
  refine lv_iload_n hx hb dX4_answerOf_4 rfl (lv_at hl 2 rfl) ?_
  have hPc : va_P D zCl (bX3 an cy Sn) H := hP.sub [4, 5, 6] rfl
  refine zc_r (va_runV (As := [.int i2]) (rest := []) ⟨hx, hb, hml, hown, htB⟩ (c_X3_has l D cy an Sn i2 h) (cwV 1 htB (zgV zm_156 zm_139 zm_140 zm_28 zm_138) rfl rfl rfl hd_X3_has ⟨Nat.le_of_ble_eq_true rfl, Nat.le_of_ble_eq_true rfl⟩) ⟨zR_blind, va_recv hK hP (ci := 3) (q0 := 4) rfl rfl, zR_pre hPc hK hN⟩ rfl rfl hl.1 rfl (lv_room (Nat.le_of_ble_eq_true rfl)) dX4_answerOf_5 ⟨Nat.zero_le _, Nat.zero_le _⟩) (fun r5 h => ?_)
  refine lv_if_ne (tgt := 17) hx hb dX4_answerOf_8 (by decide) (fun c8 => ?_) (fun c8 => ?_)
  · replace h := And.right h c8
    refine lv_aload_n hx hb dX4_answerOf_17 rfl (lv_at hl 0 rfl) ?_
    refine va_get (D := D) (ci := 4) (v := .ref (ag 99)) (C := RX4) (T := TX4) (N := 12) hx hb htB ziX4 hown hK hP 0 rfl rfl 7 (by decide) (htB _ zm_165) (fun _ h9 => h9) rfl dX4_answerOf_18 ?_
    refine lv_aload_n hx hb dX4_answerOf_21 rfl (lv_at hl 0 rfl) ?_
    refine va_get (D := D) (ci := 4) (v := .ref (an 99)) (C := RX4) (T := TX4) (N := 12) hx hb htB ziX4 hown hK hP 0 rfl rfl 0 (by decide) (htB _ zm_155) (fun _ h9 => h9) rfl dX4_answerOf_22 ?_
    have hPc : va_P D zCl ((bX1 ag cy Sg) ++ ((bX3 an cy Sn))) H := hP.sub [7, 8, 9, 10, 11, 12, 13, 14, 15, 16, 17, 4, 5, 6] rfl
    have hDc : va_D A ((bX1 ag cy Sg) ++ ((bX3 an cy Sn))) := hD.sub [7, 8, 9, 10, 11, 12, 13, 14, 15, 16, 17, 4, 5, 6] (by decide) rfl
    refine zc_v (ws' := fun u => ((bX4 ah an am af ai aj al ag cy S) ++ ((bX3 an cy Sn) ++ ((bX1 ag cy u))))) (va_runV (As := [.ref (an 99)]) (rest := []) ⟨hx, hb, hml, hown, htB⟩ (c_X1_run l D cy ag an H.size Sn Sg h) (cwV 1 htB (zgV zm_166 zm_168 zm_169 zm_57 zm_167) rfl rfl rfl hd_X1_run ⟨Nat.le_of_ble_eq_true rfl, Nat.le_of_ble_eq_true rfl⟩) ⟨zM_blind, va_recv hK hP (ci := 1) (q0 := 7) rfl rfl, zM_pre hPc hK hN hDc⟩ rfl rfl hl.1 rfl (lv_room (Nat.le_of_ble_eq_true rfl)) dX4_answerOf_25 ⟨Nat.zero_le _, Nat.zero_le _⟩) hS hA hP hD [7, 8, 9, 10, 11, 12, 13, 14, 15, 16, 17, 4, 5, 6] [0, 1, 2, 3] [0, 1, 2, 3, 15, 16, 17, 4, 5, 6, 7, 8, 9, 10, 11, 12, 13, 14] (by decide) rfl (by decide) (by decide) rfl (fun u => rfl) (fun u => rfl) (fun u => rfl) (fun u H locs h hP hD hS => ?_)
    obtain ⟨Sg_25, eu⟩ : ∃ z, z = u := ⟨_, rfl⟩
    subst eu
    replace hP : va_P D zCl ((bX4 ah an am af ai aj al ag cy S) ++ ((bX3 an cy Sn) ++ ((bX1 ag cy Sg_25)))) H := hP
    replace hD : va_D A ((bX4 ah an am af ai aj al ag cy S) ++ ((bX3 an cy Sn) ++ ((bX1 ag cy Sg_25)))) := hD
    refine lv_aload_n hx hb dX4_answerOf_28 rfl (lv_at hl 1 rfl) ?_
    refine lv_iload_n hx hb dX4_answerOf_29 rfl (lv_at hl 2 rfl) ?_
    have hPc : va_P D zCl [((ag 4), .inl (cy, 8, .inl (Sg_25 4)))] H := hP.sub [12] rfl
    refine zc_r (va_runS (As := [.ref (ag 4), .int i2]) (rest := []) ⟨hx, hb, hml, hown, htB⟩ (c_X4_at l D cy (ag 4) 8 (Sg_25 4) i2 h) (cwS 2 htB (zgS zm_143 zm_14 zm_4 zm_13) rfl rfl rfl hd_X4_at ⟨Nat.le_of_ble_eq_true rfl, Nat.le_of_ble_eq_true rfl⟩) ⟨zR_blind, zR_pre hPc hK hN⟩ rfl rfl hl.1 rfl (lv_room (Nat.le_of_ble_eq_true rfl)) dX4_answerOf_30 ⟨Nat.zero_le _, Nat.zero_le _⟩) (fun r30 h => ?_)
    exact W.iret (v := r30) hx hb hr (fun t ht hW => ⟨⟨_, (S, Sg_25), rfl, h, zP_h ht hP⟩, hS.F ht⟩) hS.2.2 dX4_answerOf_33
  · replace h := And.left h c8
    refine lv_aload_n hx hb dX4_answerOf_11 rfl (lv_at hl 0 rfl) ?_
    refine lv_iconst (v := (-1 : Int32)) hx hb dX4_answerOf_12 (by decide) ?_
    have hPc : va_P D zCl (bX4 ah an am af ai aj al ag cy S) H := hP.sub [0, 1, 2, 3] rfl
    have hDc : va_D A (bX4 ah an am af ai aj al ag cy S) := hD.sub [0, 1, 2, 3] (by decide) rfl
    refine zc_i (ws' := fun u => ((bX4 ah an am af ai aj al ag cy u) ++ ((bX3 an cy Sn) ++ ((bX1 ag cy Sg))))) (va_runV (As := [.int (-1 : Int32)]) (rest := []) ⟨hx, hb, hml, hown, htB⟩ (c_X4_refuse l D cy ah an am af ai aj al ag H.size (-1 : Int32) S h) (cwV 1 htB (zgV zm_145 zm_147 zm_148 zm_4 zm_146) rfl rfl rfl hd_X4_refuse ⟨Nat.le_of_ble_eq_true rfl, Nat.le_of_ble_eq_true rfl⟩) ⟨zM_blind, va_recv hK hP (ci := 4) (q0 := 0) rfl rfl, zM_pre hPc hK hN hDc⟩ rfl rfl hl.1 rfl (lv_room (Nat.le_of_ble_eq_true rfl)) dX4_answerOf_13 ⟨Nat.zero_le _, Nat.zero_le _⟩) hS hA hP hD [0, 1, 2, 3] [4, 5, 6, 7, 8, 9, 10, 11, 12, 13, 14, 15, 16, 17] [14, 15, 16, 17, 0, 1, 2, 3, 4, 5, 6, 7, 8, 9, 10, 11, 12, 13] (by decide) rfl (by decide) (by decide) rfl (fun u => rfl) (fun u => rfl) (fun u => rfl) (fun r13 u H locs h hP hD hS => ?_)
    obtain ⟨S_13, eu⟩ : ∃ z, z = u := ⟨_, rfl⟩
    subst eu
    replace hP : va_P D zCl ((bX4 ah an am af ai aj al ag cy S_13) ++ ((bX3 an cy Sn) ++ ((bX1 ag cy Sg)))) H := hP
    replace hD : va_D A ((bX4 ah an am af ai aj al ag cy S_13) ++ ((bX3 an cy Sn) ++ ((bX1 ag cy Sg)))) := hD
    exact W.iret (v := r13) hx hb hr (fun t ht hW => ⟨⟨_, (S_13, Sg), rfl, h, zP_h ht hP⟩, hS.F ht⟩) hS.2.2 dX4_answerOf_16
set_option maxHeartbeats 4000000 in
set_option maxRecDepth 100000 in
theorem c_X4_stands (l : Launch) (D : va_G) (cy : ClassId) (ah : Nat → Nat) (an : Nat → Nat) (am : Nat → Nat) (af : Nat → Nat) (ai : Nat → Nat) (aj : Nat → Nat) (al : Nat → Nat) (ag : Nat → Nat) (sz : Nat) (Sn : zT) (i1 : Int32) (S : zT) (Sg : zT) {Q : Int32 → zT → zT → Prop} (h : wp_X4_stands Sn i1 S Sg Q) : Met l yX4_stands w_X4_stands rm_X4_stands (va_Pc [.ref (ah 99), .int i1] (zM D cy ((bX4 ah an am af ai aj al ag cy S) ++ ((bX3 an cy Sn) ++ ((bX1 ag cy Sg)))) sz)) (va_Qi (S := zT × zT) (fun (r : Int32) (u : zT × zT) => Q r (u.1) (u.2)) (fun u t => va_P D zCl ((fun (u : zT × zT) => ((bX4 ah an am af ai aj al ag cy (u.1)) ++ ((bX3 an cy Sn) ++ ((bX1 ag cy (u.2)))))) u) t.heap) (va_A ((bX4 ah an am af ai aj al ag cy S) ++ ((bX3 an cy Sn) ++ ((bX1 ag cy Sg)))) sz)) 0 0 (va_A ((bX4 ah an am af ai aj al ag cy S) ++ ((bX3 an cy Sn) ++ ((bX1 ag cy Sg)))) sz) := by
  refine zOf_i (by decide) (Nat.le_of_ble_eq_true rfl) ?_
  intro p e s m below meth c ls A H locs hx hb hr hml hown htB hlocks hK hN hP hD hS hA hl
  replace hl : lv_has ls 2 [(0, .ref (ah 99)), (1, .int i1)] := hl
  refine lv_aload_n hx hb dX4_stands_0 rfl (lv_at hl 0 rfl) ?_
  refine lv_aload_n hx hb dX4_stands_1 rfl (lv_at hl 0 rfl) ?_
  refine va_get (D := D) (ci := 4) (v := .ref (ag 99)) (C := RX4) (T := TX4) (N := 12) hx hb htB ziX4 hown hK hP 0 rfl rfl 7 (by decide) (htB _ zm_165) (fun _ h9 => h9) rfl dX4_stands_2 ?_
  refine va_getN (D := D) (ci := 1) (v := .ref (ag 4)) (C := RX1) (T := TX1) (N := 11) hx hb htB ziX1 hown hK hP 7 rfl rfl 4 (by decide) (va_Nw.use rfl (hN _ zm_178)) (fun _ h9 => h9) rfl dX4_stands_5 ?_
  refine lv_iload_n hx hb dX4_stands_8 rfl (lv_at hl 1 rfl) ?_
  refine zc_if (ws' := fun u => ((bX4 ah an am af ai aj al ag cy (u.1)) ++ ((bX3 an cy Sn) ++ ((bX1 ag cy (u.2)))))) (va_runV (As := [.ref (ag 4), .int i1]) (rest := []) ⟨hx, hb, hml, hown, htB⟩ (c_X4_answerOf_k4 l D cy ah an am af ai aj al ag H.size Sn i1 S Sg h) (cwV 2 htB (zgV zm_172 zm_174 zm_175 zm_4 zm_173) rfl rfl rfl hd_X4_answerOf ⟨Nat.le_of_ble_eq_true rfl, Nat.le_of_ble_eq_true rfl⟩) ⟨zM_blind, va_recv hK hP (ci := 4) (q0 := 0) rfl rfl, zM_pre hP hK hN hD⟩ rfl rfl hl.1 rfl (lv_room (Nat.le_of_ble_eq_true rfl)) dX4_stands_9 ⟨Nat.zero_le _, Nat.zero_le _⟩) hS hA hP hD (fun u => rfl) (fun u => rfl) (fun r9 u H locs h hP hD hS => ?_)
  obtain ⟨S_9, Sg_9⟩ := u
  replace hP : va_P D zCl ((bX4 ah an am af ai aj al ag cy S_9) ++ ((bX3 an cy Sn) ++ ((bX1 ag cy Sg_9)))) H := hP
  replace hD : va_D A ((bX4 ah an am af ai aj al ag cy S_9) ++ ((bX3 an cy Sn) ++ ((bX1 ag cy Sg_9)))) := hD
  exact W.iret (v := r9) hx hb hr (fun t ht hW => ⟨⟨_, (S_9, Sg_9), rfl, h, zP_h ht hP⟩, hS.F ht⟩) hS.2.2 dX4_stands_12
set_option maxHeartbeats 4000000 in
set_option maxRecDepth 100000 in
theorem c_X4_answerOf_k5 (l : Launch) (D : va_G) (cy : ClassId) (ah : Nat → Nat) (an : Nat → Nat) (am : Nat → Nat) (af : Nat → Nat) (ai : Nat → Nat) (aj : Nat → Nat) (al : Nat → Nat) (ag : Nat → Nat) (sz : Nat) (Sn : zT) (i2 : Int32) (S : zT) (Sg : zT) {Q : Int32 → zT → zT → Prop} (h : wp_X4_answerOf_k5 Sn i2 S Sg Q) : Met l yX4_answerOf w_X4_answerOf rm_X4_answerOf_k5 (va_Pc [.ref (ah 99), .ref (ag 5), .int i2] (zM D cy ((bX4 ah an am af ai aj al ag cy S) ++ ((bX3 an cy Sn) ++ ((bX1 ag cy Sg)))) sz)) (va_Qi (S := zT × zT) (fun (r : Int32) (u : zT × zT) => Q r (u.1) (u.2)) (fun u t => va_P D zCl ((fun (u : zT × zT) => ((bX4 ah an am af ai aj al ag cy (u.1)) ++ ((bX3 an cy Sn) ++ ((bX1 ag cy (u.2)))))) u) t.heap) (va_A ((bX4 ah an am af ai aj al ag cy S) ++ ((bX3 an cy Sn) ++ ((bX1 ag cy Sg)))) sz)) 0 0 (va_A ((bX4 ah an am af ai aj al ag cy S) ++ ((bX3 an cy Sn) ++ ((bX1 ag cy Sg)))) sz) := by
  refine zOf_i (by decide) (Nat.le_of_ble_eq_true rfl) ?_
  intro p e s m below meth c ls A H locs hx hb hr hml hown htB hlocks hK hN hP hD hS hA hl
  replace hl : lv_has ls 3 [(0, .ref (ah 99)), (1, .ref (ag 5)), (2, .int i2)] := hl
  refine lv_aload_n hx hb dX4_answerOf_0 rfl (lv_at hl 0 rfl) ?_
  refine va_get (D := D) (ci := 4) (v := .ref (an 99)) (C := RX4) (T := TX4) (N := 12) hx hb htB ziX4 hown hK hP 0 rfl rfl 0 (by decide) (htB _ zm_155) (fun _ h9 => h9) rfl dX4_answerOf_1 ?_
  refine lv_iload_n hx hb dX4_answerOf_4 rfl (lv_at hl 2 rfl) ?_
  have hPc : va_P D zCl (bX3 an cy Sn) H := hP.sub [4, 5, 6] rfl
  refine zc_r (va_runV (As := [.int i2]) (rest := []) ⟨hx, hb, hml, hown, htB⟩ (c_X3_has l D cy an Sn i2 h) (cwV 1 htB (zgV zm_156 zm_139 zm_140 zm_28 zm_138) rfl rfl rfl hd_X3_has ⟨Nat.le_of_ble_eq_true rfl, Nat.le_of_ble_eq_true rfl⟩) ⟨zR_blind, va_recv hK hP (ci := 3) (q0 := 4) rfl rfl, zR_pre hPc hK hN⟩ rfl rfl hl.1 rfl (lv_room (Nat.le_of_ble_eq_true rfl)) dX4_answerOf_5 ⟨Nat.zero_le _, Nat.zero_le _⟩) (fun r5 h => ?_)
  refine lv_if_ne (tgt := 17) hx hb dX4_answerOf_8 (by decide) (fun c8 => ?_) (fun c8 => ?_)
  · replace h := And.right h c8
    refine lv_aload_n hx hb dX4_answerOf_17 rfl (lv_at hl 0 rfl) ?_
    refine va_get (D := D) (ci := 4) (v := .ref (ag 99)) (C := RX4) (T := TX4) (N := 12) hx hb htB ziX4 hown hK hP 0 rfl rfl 7 (by decide) (htB _ zm_165) (fun _ h9 => h9) rfl dX4_answerOf_18 ?_
    refine lv_aload_n hx hb dX4_answerOf_21 rfl (lv_at hl 0 rfl) ?_
    refine va_get (D := D) (ci := 4) (v := .ref (an 99)) (C := RX4) (T := TX4) (N := 12) hx hb htB ziX4 hown hK hP 0 rfl rfl 0 (by decide) (htB _ zm_155) (fun _ h9 => h9) rfl dX4_answerOf_22 ?_
    have hPc : va_P D zCl ((bX1 ag cy Sg) ++ ((bX3 an cy Sn))) H := hP.sub [7, 8, 9, 10, 11, 12, 13, 14, 15, 16, 17, 4, 5, 6] rfl
    have hDc : va_D A ((bX1 ag cy Sg) ++ ((bX3 an cy Sn))) := hD.sub [7, 8, 9, 10, 11, 12, 13, 14, 15, 16, 17, 4, 5, 6] (by decide) rfl
    refine zc_v (ws' := fun u => ((bX4 ah an am af ai aj al ag cy S) ++ ((bX3 an cy Sn) ++ ((bX1 ag cy u))))) (va_runV (As := [.ref (an 99)]) (rest := []) ⟨hx, hb, hml, hown, htB⟩ (c_X1_run l D cy ag an H.size Sn Sg h) (cwV 1 htB (zgV zm_166 zm_168 zm_169 zm_57 zm_167) rfl rfl rfl hd_X1_run ⟨Nat.le_of_ble_eq_true rfl, Nat.le_of_ble_eq_true rfl⟩) ⟨zM_blind, va_recv hK hP (ci := 1) (q0 := 7) rfl rfl, zM_pre hPc hK hN hDc⟩ rfl rfl hl.1 rfl (lv_room (Nat.le_of_ble_eq_true rfl)) dX4_answerOf_25 ⟨Nat.zero_le _, Nat.zero_le _⟩) hS hA hP hD [7, 8, 9, 10, 11, 12, 13, 14, 15, 16, 17, 4, 5, 6] [0, 1, 2, 3] [0, 1, 2, 3, 15, 16, 17, 4, 5, 6, 7, 8, 9, 10, 11, 12, 13, 14] (by decide) rfl (by decide) (by decide) rfl (fun u => rfl) (fun u => rfl) (fun u => rfl) (fun u H locs h hP hD hS => ?_)
    obtain ⟨Sg_25, eu⟩ : ∃ z, z = u := ⟨_, rfl⟩
    subst eu
    replace hP : va_P D zCl ((bX4 ah an am af ai aj al ag cy S) ++ ((bX3 an cy Sn) ++ ((bX1 ag cy Sg_25)))) H := hP
    replace hD : va_D A ((bX4 ah an am af ai aj al ag cy S) ++ ((bX3 an cy Sn) ++ ((bX1 ag cy Sg_25)))) := hD
    refine lv_aload_n hx hb dX4_answerOf_28 rfl (lv_at hl 1 rfl) ?_
    refine lv_iload_n hx hb dX4_answerOf_29 rfl (lv_at hl 2 rfl) ?_
    have hPc : va_P D zCl [((ag 5), .inl (cy, 8, .inl (Sg_25 5)))] H := hP.sub [13] rfl
    refine zc_r (va_runS (As := [.ref (ag 5), .int i2]) (rest := []) ⟨hx, hb, hml, hown, htB⟩ (c_X4_at l D cy (ag 5) 8 (Sg_25 5) i2 h) (cwS 2 htB (zgS zm_143 zm_14 zm_4 zm_13) rfl rfl rfl hd_X4_at ⟨Nat.le_of_ble_eq_true rfl, Nat.le_of_ble_eq_true rfl⟩) ⟨zR_blind, zR_pre hPc hK hN⟩ rfl rfl hl.1 rfl (lv_room (Nat.le_of_ble_eq_true rfl)) dX4_answerOf_30 ⟨Nat.zero_le _, Nat.zero_le _⟩) (fun r30 h => ?_)
    exact W.iret (v := r30) hx hb hr (fun t ht hW => ⟨⟨_, (S, Sg_25), rfl, h, zP_h ht hP⟩, hS.F ht⟩) hS.2.2 dX4_answerOf_33
  · replace h := And.left h c8
    refine lv_aload_n hx hb dX4_answerOf_11 rfl (lv_at hl 0 rfl) ?_
    refine lv_iconst (v := (-1 : Int32)) hx hb dX4_answerOf_12 (by decide) ?_
    have hPc : va_P D zCl (bX4 ah an am af ai aj al ag cy S) H := hP.sub [0, 1, 2, 3] rfl
    have hDc : va_D A (bX4 ah an am af ai aj al ag cy S) := hD.sub [0, 1, 2, 3] (by decide) rfl
    refine zc_i (ws' := fun u => ((bX4 ah an am af ai aj al ag cy u) ++ ((bX3 an cy Sn) ++ ((bX1 ag cy Sg))))) (va_runV (As := [.int (-1 : Int32)]) (rest := []) ⟨hx, hb, hml, hown, htB⟩ (c_X4_refuse l D cy ah an am af ai aj al ag H.size (-1 : Int32) S h) (cwV 1 htB (zgV zm_145 zm_147 zm_148 zm_4 zm_146) rfl rfl rfl hd_X4_refuse ⟨Nat.le_of_ble_eq_true rfl, Nat.le_of_ble_eq_true rfl⟩) ⟨zM_blind, va_recv hK hP (ci := 4) (q0 := 0) rfl rfl, zM_pre hPc hK hN hDc⟩ rfl rfl hl.1 rfl (lv_room (Nat.le_of_ble_eq_true rfl)) dX4_answerOf_13 ⟨Nat.zero_le _, Nat.zero_le _⟩) hS hA hP hD [0, 1, 2, 3] [4, 5, 6, 7, 8, 9, 10, 11, 12, 13, 14, 15, 16, 17] [14, 15, 16, 17, 0, 1, 2, 3, 4, 5, 6, 7, 8, 9, 10, 11, 12, 13] (by decide) rfl (by decide) (by decide) rfl (fun u => rfl) (fun u => rfl) (fun u => rfl) (fun r13 u H locs h hP hD hS => ?_)
    obtain ⟨S_13, eu⟩ : ∃ z, z = u := ⟨_, rfl⟩
    subst eu
    replace hP : va_P D zCl ((bX4 ah an am af ai aj al ag cy S_13) ++ ((bX3 an cy Sn) ++ ((bX1 ag cy Sg)))) H := hP
    replace hD : va_D A ((bX4 ah an am af ai aj al ag cy S_13) ++ ((bX3 an cy Sn) ++ ((bX1 ag cy Sg)))) := hD
    exact W.iret (v := r13) hx hb hr (fun t ht hW => ⟨⟨_, (S_13, Sg), rfl, h, zP_h ht hP⟩, hS.F ht⟩) hS.2.2 dX4_answerOf_16
set_option maxHeartbeats 4000000 in
set_option maxRecDepth 100000 in
theorem c_X4_by (l : Launch) (D : va_G) (cy : ClassId) (ah : Nat → Nat) (an : Nat → Nat) (am : Nat → Nat) (af : Nat → Nat) (ai : Nat → Nat) (aj : Nat → Nat) (al : Nat → Nat) (ag : Nat → Nat) (sz : Nat) (Sn : zT) (i1 : Int32) (S : zT) (Sg : zT) {Q : Int32 → zT → zT → Prop} (h : wp_X4_by Sn i1 S Sg Q) : Met l yX4_by w_X4_by rm_X4_by (va_Pc [.ref (ah 99), .int i1] (zM D cy ((bX4 ah an am af ai aj al ag cy S) ++ ((bX3 an cy Sn) ++ ((bX1 ag cy Sg)))) sz)) (va_Qi (S := zT × zT) (fun (r : Int32) (u : zT × zT) => Q r (u.1) (u.2)) (fun u t => va_P D zCl ((fun (u : zT × zT) => ((bX4 ah an am af ai aj al ag cy (u.1)) ++ ((bX3 an cy Sn) ++ ((bX1 ag cy (u.2)))))) u) t.heap) (va_A ((bX4 ah an am af ai aj al ag cy S) ++ ((bX3 an cy Sn) ++ ((bX1 ag cy Sg)))) sz)) 0 0 (va_A ((bX4 ah an am af ai aj al ag cy S) ++ ((bX3 an cy Sn) ++ ((bX1 ag cy Sg)))) sz) := by
  refine zOf_i (by decide) (Nat.le_of_ble_eq_true rfl) ?_
  intro p e s m below meth c ls A H locs hx hb hr hml hown htB hlocks hK hN hP hD hS hA hl
  replace hl : lv_has ls 2 [(0, .ref (ah 99)), (1, .int i1)] := hl
  refine lv_aload_n hx hb dX4_by_0 rfl (lv_at hl 0 rfl) ?_
  refine lv_aload_n hx hb dX4_by_1 rfl (lv_at hl 0 rfl) ?_
  refine va_get (D := D) (ci := 4) (v := .ref (ag 99)) (C := RX4) (T := TX4) (N := 12) hx hb htB ziX4 hown hK hP 0 rfl rfl 7 (by decide) (htB _ zm_165) (fun _ h9 => h9) rfl dX4_by_2 ?_
  refine va_getN (D := D) (ci := 1) (v := .ref (ag 5)) (C := RX1) (T := TX1) (N := 11) hx hb htB ziX1 hown hK hP 7 rfl rfl 5 (by decide) (va_Nw.use rfl (hN _ zm_179)) (fun _ h9 => h9) rfl dX4_by_5 ?_
  refine lv_iload_n hx hb dX4_by_8 rfl (lv_at hl 1 rfl) ?_
  refine zc_if (ws' := fun u => ((bX4 ah an am af ai aj al ag cy (u.1)) ++ ((bX3 an cy Sn) ++ ((bX1 ag cy (u.2)))))) (va_runV (As := [.ref (ag 5), .int i1]) (rest := []) ⟨hx, hb, hml, hown, htB⟩ (c_X4_answerOf_k5 l D cy ah an am af ai aj al ag H.size Sn i1 S Sg h) (cwV 2 htB (zgV zm_172 zm_174 zm_175 zm_4 zm_173) rfl rfl rfl hd_X4_answerOf ⟨Nat.le_of_ble_eq_true rfl, Nat.le_of_ble_eq_true rfl⟩) ⟨zM_blind, va_recv hK hP (ci := 4) (q0 := 0) rfl rfl, zM_pre hP hK hN hD⟩ rfl rfl hl.1 rfl (lv_room (Nat.le_of_ble_eq_true rfl)) dX4_by_9 ⟨Nat.zero_le _, Nat.zero_le _⟩) hS hA hP hD (fun u => rfl) (fun u => rfl) (fun r9 u H locs h hP hD hS => ?_)
  obtain ⟨S_9, Sg_9⟩ := u
  replace hP : va_P D zCl ((bX4 ah an am af ai aj al ag cy S_9) ++ ((bX3 an cy Sn) ++ ((bX1 ag cy Sg_9)))) H := hP
  replace hD : va_D A ((bX4 ah an am af ai aj al ag cy S_9) ++ ((bX3 an cy Sn) ++ ((bX1 ag cy Sg_9)))) := hD
  exact W.iret (v := r9) hx hb hr (fun t ht hW => ⟨⟨_, (S_9, Sg_9), rfl, h, zP_h ht hP⟩, hS.F ht⟩) hS.2.2 dX4_by_12
set_option maxHeartbeats 4000000 in
set_option maxRecDepth 100000 in
theorem c_X4_answerOf_k6 (l : Launch) (D : va_G) (cy : ClassId) (ah : Nat → Nat) (an : Nat → Nat) (am : Nat → Nat) (af : Nat → Nat) (ai : Nat → Nat) (aj : Nat → Nat) (al : Nat → Nat) (ag : Nat → Nat) (sz : Nat) (Sn : zT) (i2 : Int32) (S : zT) (Sg : zT) {Q : Int32 → zT → zT → Prop} (h : wp_X4_answerOf_k6 Sn i2 S Sg Q) : Met l yX4_answerOf w_X4_answerOf rm_X4_answerOf_k6 (va_Pc [.ref (ah 99), .ref (ag 6), .int i2] (zM D cy ((bX4 ah an am af ai aj al ag cy S) ++ ((bX3 an cy Sn) ++ ((bX1 ag cy Sg)))) sz)) (va_Qi (S := zT × zT) (fun (r : Int32) (u : zT × zT) => Q r (u.1) (u.2)) (fun u t => va_P D zCl ((fun (u : zT × zT) => ((bX4 ah an am af ai aj al ag cy (u.1)) ++ ((bX3 an cy Sn) ++ ((bX1 ag cy (u.2)))))) u) t.heap) (va_A ((bX4 ah an am af ai aj al ag cy S) ++ ((bX3 an cy Sn) ++ ((bX1 ag cy Sg)))) sz)) 0 0 (va_A ((bX4 ah an am af ai aj al ag cy S) ++ ((bX3 an cy Sn) ++ ((bX1 ag cy Sg)))) sz) := by
  refine zOf_i (by decide) (Nat.le_of_ble_eq_true rfl) ?_
  intro p e s m below meth c ls A H locs hx hb hr hml hown htB hlocks hK hN hP hD hS hA hl
  replace hl : lv_has ls 3 [(0, .ref (ah 99)), (1, .ref (ag 6)), (2, .int i2)] := hl
  refine lv_aload_n hx hb dX4_answerOf_0 rfl (lv_at hl 0 rfl) ?_
  refine va_get (D := D) (ci := 4) (v := .ref (an 99)) (C := RX4) (T := TX4) (N := 12) hx hb htB ziX4 hown hK hP 0 rfl rfl 0 (by decide) (htB _ zm_155) (fun _ h9 => h9) rfl dX4_answerOf_1 ?_
  refine lv_iload_n hx hb dX4_answerOf_4 rfl (lv_at hl 2 rfl) ?_
  have hPc : va_P D zCl (bX3 an cy Sn) H := hP.sub [4, 5, 6] rfl
  refine zc_r (va_runV (As := [.int i2]) (rest := []) ⟨hx, hb, hml, hown, htB⟩ (c_X3_has l D cy an Sn i2 h) (cwV 1 htB (zgV zm_156 zm_139 zm_140 zm_28 zm_138) rfl rfl rfl hd_X3_has ⟨Nat.le_of_ble_eq_true rfl, Nat.le_of_ble_eq_true rfl⟩) ⟨zR_blind, va_recv hK hP (ci := 3) (q0 := 4) rfl rfl, zR_pre hPc hK hN⟩ rfl rfl hl.1 rfl (lv_room (Nat.le_of_ble_eq_true rfl)) dX4_answerOf_5 ⟨Nat.zero_le _, Nat.zero_le _⟩) (fun r5 h => ?_)
  refine lv_if_ne (tgt := 17) hx hb dX4_answerOf_8 (by decide) (fun c8 => ?_) (fun c8 => ?_)
  · replace h := And.right h c8
    refine lv_aload_n hx hb dX4_answerOf_17 rfl (lv_at hl 0 rfl) ?_
    refine va_get (D := D) (ci := 4) (v := .ref (ag 99)) (C := RX4) (T := TX4) (N := 12) hx hb htB ziX4 hown hK hP 0 rfl rfl 7 (by decide) (htB _ zm_165) (fun _ h9 => h9) rfl dX4_answerOf_18 ?_
    refine lv_aload_n hx hb dX4_answerOf_21 rfl (lv_at hl 0 rfl) ?_
    refine va_get (D := D) (ci := 4) (v := .ref (an 99)) (C := RX4) (T := TX4) (N := 12) hx hb htB ziX4 hown hK hP 0 rfl rfl 0 (by decide) (htB _ zm_155) (fun _ h9 => h9) rfl dX4_answerOf_22 ?_
    have hPc : va_P D zCl ((bX1 ag cy Sg) ++ ((bX3 an cy Sn))) H := hP.sub [7, 8, 9, 10, 11, 12, 13, 14, 15, 16, 17, 4, 5, 6] rfl
    have hDc : va_D A ((bX1 ag cy Sg) ++ ((bX3 an cy Sn))) := hD.sub [7, 8, 9, 10, 11, 12, 13, 14, 15, 16, 17, 4, 5, 6] (by decide) rfl
    refine zc_v (ws' := fun u => ((bX4 ah an am af ai aj al ag cy S) ++ ((bX3 an cy Sn) ++ ((bX1 ag cy u))))) (va_runV (As := [.ref (an 99)]) (rest := []) ⟨hx, hb, hml, hown, htB⟩ (c_X1_run l D cy ag an H.size Sn Sg h) (cwV 1 htB (zgV zm_166 zm_168 zm_169 zm_57 zm_167) rfl rfl rfl hd_X1_run ⟨Nat.le_of_ble_eq_true rfl, Nat.le_of_ble_eq_true rfl⟩) ⟨zM_blind, va_recv hK hP (ci := 1) (q0 := 7) rfl rfl, zM_pre hPc hK hN hDc⟩ rfl rfl hl.1 rfl (lv_room (Nat.le_of_ble_eq_true rfl)) dX4_answerOf_25 ⟨Nat.zero_le _, Nat.zero_le _⟩) hS hA hP hD [7, 8, 9, 10, 11, 12, 13, 14, 15, 16, 17, 4, 5, 6] [0, 1, 2, 3] [0, 1, 2, 3, 15, 16, 17, 4, 5, 6, 7, 8, 9, 10, 11, 12, 13, 14] (by decide) rfl (by decide) (by decide) rfl (fun u => rfl) (fun u => rfl) (fun u => rfl) (fun u H locs h hP hD hS => ?_)
    obtain ⟨Sg_25, eu⟩ : ∃ z, z = u := ⟨_, rfl⟩
    subst eu
    replace hP : va_P D zCl ((bX4 ah an am af ai aj al ag cy S) ++ ((bX3 an cy Sn) ++ ((bX1 ag cy Sg_25)))) H := hP
    replace hD : va_D A ((bX4 ah an am af ai aj al ag cy S) ++ ((bX3 an cy Sn) ++ ((bX1 ag cy Sg_25)))) := hD
    refine lv_aload_n hx hb dX4_answerOf_28 rfl (lv_at hl 1 rfl) ?_
    refine lv_iload_n hx hb dX4_answerOf_29 rfl (lv_at hl 2 rfl) ?_
    have hPc : va_P D zCl [((ag 6), .inl (cy, 8, .inl (Sg_25 6)))] H := hP.sub [14] rfl
    refine zc_r (va_runS (As := [.ref (ag 6), .int i2]) (rest := []) ⟨hx, hb, hml, hown, htB⟩ (c_X4_at l D cy (ag 6) 8 (Sg_25 6) i2 h) (cwS 2 htB (zgS zm_143 zm_14 zm_4 zm_13) rfl rfl rfl hd_X4_at ⟨Nat.le_of_ble_eq_true rfl, Nat.le_of_ble_eq_true rfl⟩) ⟨zR_blind, zR_pre hPc hK hN⟩ rfl rfl hl.1 rfl (lv_room (Nat.le_of_ble_eq_true rfl)) dX4_answerOf_30 ⟨Nat.zero_le _, Nat.zero_le _⟩) (fun r30 h => ?_)
    exact W.iret (v := r30) hx hb hr (fun t ht hW => ⟨⟨_, (S, Sg_25), rfl, h, zP_h ht hP⟩, hS.F ht⟩) hS.2.2 dX4_answerOf_33
  · replace h := And.left h c8
    refine lv_aload_n hx hb dX4_answerOf_11 rfl (lv_at hl 0 rfl) ?_
    refine lv_iconst (v := (-1 : Int32)) hx hb dX4_answerOf_12 (by decide) ?_
    have hPc : va_P D zCl (bX4 ah an am af ai aj al ag cy S) H := hP.sub [0, 1, 2, 3] rfl
    have hDc : va_D A (bX4 ah an am af ai aj al ag cy S) := hD.sub [0, 1, 2, 3] (by decide) rfl
    refine zc_i (ws' := fun u => ((bX4 ah an am af ai aj al ag cy u) ++ ((bX3 an cy Sn) ++ ((bX1 ag cy Sg))))) (va_runV (As := [.int (-1 : Int32)]) (rest := []) ⟨hx, hb, hml, hown, htB⟩ (c_X4_refuse l D cy ah an am af ai aj al ag H.size (-1 : Int32) S h) (cwV 1 htB (zgV zm_145 zm_147 zm_148 zm_4 zm_146) rfl rfl rfl hd_X4_refuse ⟨Nat.le_of_ble_eq_true rfl, Nat.le_of_ble_eq_true rfl⟩) ⟨zM_blind, va_recv hK hP (ci := 4) (q0 := 0) rfl rfl, zM_pre hPc hK hN hDc⟩ rfl rfl hl.1 rfl (lv_room (Nat.le_of_ble_eq_true rfl)) dX4_answerOf_13 ⟨Nat.zero_le _, Nat.zero_le _⟩) hS hA hP hD [0, 1, 2, 3] [4, 5, 6, 7, 8, 9, 10, 11, 12, 13, 14, 15, 16, 17] [14, 15, 16, 17, 0, 1, 2, 3, 4, 5, 6, 7, 8, 9, 10, 11, 12, 13] (by decide) rfl (by decide) (by decide) rfl (fun u => rfl) (fun u => rfl) (fun u => rfl) (fun r13 u H locs h hP hD hS => ?_)
    obtain ⟨S_13, eu⟩ : ∃ z, z = u := ⟨_, rfl⟩
    subst eu
    replace hP : va_P D zCl ((bX4 ah an am af ai aj al ag cy S_13) ++ ((bX3 an cy Sn) ++ ((bX1 ag cy Sg)))) H := hP
    replace hD : va_D A ((bX4 ah an am af ai aj al ag cy S_13) ++ ((bX3 an cy Sn) ++ ((bX1 ag cy Sg)))) := hD
    exact W.iret (v := r13) hx hb hr (fun t ht hW => ⟨⟨_, (S_13, Sg), rfl, h, zP_h ht hP⟩, hS.F ht⟩) hS.2.2 dX4_answerOf_16
set_option maxHeartbeats 4000000 in
set_option maxRecDepth 100000 in
theorem c_X4_runs (l : Launch) (D : va_G) (cy : ClassId) (ah : Nat → Nat) (an : Nat → Nat) (am : Nat → Nat) (af : Nat → Nat) (ai : Nat → Nat) (aj : Nat → Nat) (al : Nat → Nat) (ag : Nat → Nat) (sz : Nat) (Sn : zT) (i1 : Int32) (S : zT) (Sg : zT) {Q : Int32 → zT → zT → Prop} (h : wp_X4_runs Sn i1 S Sg Q) : Met l yX4_runs w_X4_runs rm_X4_runs (va_Pc [.ref (ah 99), .int i1] (zM D cy ((bX4 ah an am af ai aj al ag cy S) ++ ((bX3 an cy Sn) ++ ((bX1 ag cy Sg)))) sz)) (va_Qi (S := zT × zT) (fun (r : Int32) (u : zT × zT) => Q r (u.1) (u.2)) (fun u t => va_P D zCl ((fun (u : zT × zT) => ((bX4 ah an am af ai aj al ag cy (u.1)) ++ ((bX3 an cy Sn) ++ ((bX1 ag cy (u.2)))))) u) t.heap) (va_A ((bX4 ah an am af ai aj al ag cy S) ++ ((bX3 an cy Sn) ++ ((bX1 ag cy Sg)))) sz)) 0 0 (va_A ((bX4 ah an am af ai aj al ag cy S) ++ ((bX3 an cy Sn) ++ ((bX1 ag cy Sg)))) sz) := by
  refine zOf_i (by decide) (Nat.le_of_ble_eq_true rfl) ?_
  intro p e s m below meth c ls A H locs hx hb hr hml hown htB hlocks hK hN hP hD hS hA hl
  replace hl : lv_has ls 2 [(0, .ref (ah 99)), (1, .int i1)] := hl
  refine lv_aload_n hx hb dX4_runs_0 rfl (lv_at hl 0 rfl) ?_
  refine lv_aload_n hx hb dX4_runs_1 rfl (lv_at hl 0 rfl) ?_
  refine va_get (D := D) (ci := 4) (v := .ref (ag 99)) (C := RX4) (T := TX4) (N := 12) hx hb htB ziX4 hown hK hP 0 rfl rfl 7 (by decide) (htB _ zm_165) (fun _ h9 => h9) rfl dX4_runs_2 ?_
  refine va_getN (D := D) (ci := 1) (v := .ref (ag 6)) (C := RX1) (T := TX1) (N := 11) hx hb htB ziX1 hown hK hP 7 rfl rfl 6 (by decide) (va_Nw.use rfl (hN _ zm_180)) (fun _ h9 => h9) rfl dX4_runs_5 ?_
  refine lv_iload_n hx hb dX4_runs_8 rfl (lv_at hl 1 rfl) ?_
  refine zc_if (ws' := fun u => ((bX4 ah an am af ai aj al ag cy (u.1)) ++ ((bX3 an cy Sn) ++ ((bX1 ag cy (u.2)))))) (va_runV (As := [.ref (ag 6), .int i1]) (rest := []) ⟨hx, hb, hml, hown, htB⟩ (c_X4_answerOf_k6 l D cy ah an am af ai aj al ag H.size Sn i1 S Sg h) (cwV 2 htB (zgV zm_172 zm_174 zm_175 zm_4 zm_173) rfl rfl rfl hd_X4_answerOf ⟨Nat.le_of_ble_eq_true rfl, Nat.le_of_ble_eq_true rfl⟩) ⟨zM_blind, va_recv hK hP (ci := 4) (q0 := 0) rfl rfl, zM_pre hP hK hN hD⟩ rfl rfl hl.1 rfl (lv_room (Nat.le_of_ble_eq_true rfl)) dX4_runs_9 ⟨Nat.zero_le _, Nat.zero_le _⟩) hS hA hP hD (fun u => rfl) (fun u => rfl) (fun r9 u H locs h hP hD hS => ?_)
  obtain ⟨S_9, Sg_9⟩ := u
  replace hP : va_P D zCl ((bX4 ah an am af ai aj al ag cy S_9) ++ ((bX3 an cy Sn) ++ ((bX1 ag cy Sg_9)))) H := hP
  replace hD : va_D A ((bX4 ah an am af ai aj al ag cy S_9) ++ ((bX3 an cy Sn) ++ ((bX1 ag cy Sg_9)))) := hD
  exact W.iret (v := r9) hx hb hr (fun t ht hW => ⟨⟨_, (S_9, Sg_9), rfl, h, zP_h ht hP⟩, hS.F ht⟩) hS.2.2 dX4_runs_12
set_option maxHeartbeats 4000000 in
set_option maxRecDepth 100000 in
theorem c_X4_answerOf_k7 (l : Launch) (D : va_G) (cy : ClassId) (ah : Nat → Nat) (an : Nat → Nat) (am : Nat → Nat) (af : Nat → Nat) (ai : Nat → Nat) (aj : Nat → Nat) (al : Nat → Nat) (ag : Nat → Nat) (sz : Nat) (Sn : zT) (i2 : Int32) (S : zT) (Sg : zT) {Q : Int32 → zT → zT → Prop} (h : wp_X4_answerOf_k7 Sn i2 S Sg Q) : Met l yX4_answerOf w_X4_answerOf rm_X4_answerOf_k7 (va_Pc [.ref (ah 99), .ref (ag 7), .int i2] (zM D cy ((bX4 ah an am af ai aj al ag cy S) ++ ((bX3 an cy Sn) ++ ((bX1 ag cy Sg)))) sz)) (va_Qi (S := zT × zT) (fun (r : Int32) (u : zT × zT) => Q r (u.1) (u.2)) (fun u t => va_P D zCl ((fun (u : zT × zT) => ((bX4 ah an am af ai aj al ag cy (u.1)) ++ ((bX3 an cy Sn) ++ ((bX1 ag cy (u.2)))))) u) t.heap) (va_A ((bX4 ah an am af ai aj al ag cy S) ++ ((bX3 an cy Sn) ++ ((bX1 ag cy Sg)))) sz)) 0 0 (va_A ((bX4 ah an am af ai aj al ag cy S) ++ ((bX3 an cy Sn) ++ ((bX1 ag cy Sg)))) sz) := by
  refine zOf_i (by decide) (Nat.le_of_ble_eq_true rfl) ?_
  intro p e s m below meth c ls A H locs hx hb hr hml hown htB hlocks hK hN hP hD hS hA hl
  replace hl : lv_has ls 3 [(0, .ref (ah 99)), (1, .ref (ag 7)), (2, .int i2)] := hl
  refine lv_aload_n hx hb dX4_answerOf_0 rfl (lv_at hl 0 rfl) ?_
  refine va_get (D := D) (ci := 4) (v := .ref (an 99)) (C := RX4) (T := TX4) (N := 12) hx hb htB ziX4 hown hK hP 0 rfl rfl 0 (by decide) (htB _ zm_155) (fun _ h9 => h9) rfl dX4_answerOf_1 ?_
  refine lv_iload_n hx hb dX4_answerOf_4 rfl (lv_at hl 2 rfl) ?_
  have hPc : va_P D zCl (bX3 an cy Sn) H := hP.sub [4, 5, 6] rfl
  refine zc_r (va_runV (As := [.int i2]) (rest := []) ⟨hx, hb, hml, hown, htB⟩ (c_X3_has l D cy an Sn i2 h) (cwV 1 htB (zgV zm_156 zm_139 zm_140 zm_28 zm_138) rfl rfl rfl hd_X3_has ⟨Nat.le_of_ble_eq_true rfl, Nat.le_of_ble_eq_true rfl⟩) ⟨zR_blind, va_recv hK hP (ci := 3) (q0 := 4) rfl rfl, zR_pre hPc hK hN⟩ rfl rfl hl.1 rfl (lv_room (Nat.le_of_ble_eq_true rfl)) dX4_answerOf_5 ⟨Nat.zero_le _, Nat.zero_le _⟩) (fun r5 h => ?_)
  refine lv_if_ne (tgt := 17) hx hb dX4_answerOf_8 (by decide) (fun c8 => ?_) (fun c8 => ?_)
  · replace h := And.right h c8
    refine lv_aload_n hx hb dX4_answerOf_17 rfl (lv_at hl 0 rfl) ?_
    refine va_get (D := D) (ci := 4) (v := .ref (ag 99)) (C := RX4) (T := TX4) (N := 12) hx hb htB ziX4 hown hK hP 0 rfl rfl 7 (by decide) (htB _ zm_165) (fun _ h9 => h9) rfl dX4_answerOf_18 ?_
    refine lv_aload_n hx hb dX4_answerOf_21 rfl (lv_at hl 0 rfl) ?_
    refine va_get (D := D) (ci := 4) (v := .ref (an 99)) (C := RX4) (T := TX4) (N := 12) hx hb htB ziX4 hown hK hP 0 rfl rfl 0 (by decide) (htB _ zm_155) (fun _ h9 => h9) rfl dX4_answerOf_22 ?_
    have hPc : va_P D zCl ((bX1 ag cy Sg) ++ ((bX3 an cy Sn))) H := hP.sub [7, 8, 9, 10, 11, 12, 13, 14, 15, 16, 17, 4, 5, 6] rfl
    have hDc : va_D A ((bX1 ag cy Sg) ++ ((bX3 an cy Sn))) := hD.sub [7, 8, 9, 10, 11, 12, 13, 14, 15, 16, 17, 4, 5, 6] (by decide) rfl
    refine zc_v (ws' := fun u => ((bX4 ah an am af ai aj al ag cy S) ++ ((bX3 an cy Sn) ++ ((bX1 ag cy u))))) (va_runV (As := [.ref (an 99)]) (rest := []) ⟨hx, hb, hml, hown, htB⟩ (c_X1_run l D cy ag an H.size Sn Sg h) (cwV 1 htB (zgV zm_166 zm_168 zm_169 zm_57 zm_167) rfl rfl rfl hd_X1_run ⟨Nat.le_of_ble_eq_true rfl, Nat.le_of_ble_eq_true rfl⟩) ⟨zM_blind, va_recv hK hP (ci := 1) (q0 := 7) rfl rfl, zM_pre hPc hK hN hDc⟩ rfl rfl hl.1 rfl (lv_room (Nat.le_of_ble_eq_true rfl)) dX4_answerOf_25 ⟨Nat.zero_le _, Nat.zero_le _⟩) hS hA hP hD [7, 8, 9, 10, 11, 12, 13, 14, 15, 16, 17, 4, 5, 6] [0, 1, 2, 3] [0, 1, 2, 3, 15, 16, 17, 4, 5, 6, 7, 8, 9, 10, 11, 12, 13, 14] (by decide) rfl (by decide) (by decide) rfl (fun u => rfl) (fun u => rfl) (fun u => rfl) (fun u H locs h hP hD hS => ?_)
    obtain ⟨Sg_25, eu⟩ : ∃ z, z = u := ⟨_, rfl⟩
    subst eu
    replace hP : va_P D zCl ((bX4 ah an am af ai aj al ag cy S) ++ ((bX3 an cy Sn) ++ ((bX1 ag cy Sg_25)))) H := hP
    replace hD : va_D A ((bX4 ah an am af ai aj al ag cy S) ++ ((bX3 an cy Sn) ++ ((bX1 ag cy Sg_25)))) := hD
    refine lv_aload_n hx hb dX4_answerOf_28 rfl (lv_at hl 1 rfl) ?_
    refine lv_iload_n hx hb dX4_answerOf_29 rfl (lv_at hl 2 rfl) ?_
    have hPc : va_P D zCl [((ag 7), .inl (cy, 8, .inl (Sg_25 7)))] H := hP.sub [15] rfl
    refine zc_r (va_runS (As := [.ref (ag 7), .int i2]) (rest := []) ⟨hx, hb, hml, hown, htB⟩ (c_X4_at l D cy (ag 7) 8 (Sg_25 7) i2 h) (cwS 2 htB (zgS zm_143 zm_14 zm_4 zm_13) rfl rfl rfl hd_X4_at ⟨Nat.le_of_ble_eq_true rfl, Nat.le_of_ble_eq_true rfl⟩) ⟨zR_blind, zR_pre hPc hK hN⟩ rfl rfl hl.1 rfl (lv_room (Nat.le_of_ble_eq_true rfl)) dX4_answerOf_30 ⟨Nat.zero_le _, Nat.zero_le _⟩) (fun r30 h => ?_)
    exact W.iret (v := r30) hx hb hr (fun t ht hW => ⟨⟨_, (S, Sg_25), rfl, h, zP_h ht hP⟩, hS.F ht⟩) hS.2.2 dX4_answerOf_33
  · replace h := And.left h c8
    refine lv_aload_n hx hb dX4_answerOf_11 rfl (lv_at hl 0 rfl) ?_
    refine lv_iconst (v := (-1 : Int32)) hx hb dX4_answerOf_12 (by decide) ?_
    have hPc : va_P D zCl (bX4 ah an am af ai aj al ag cy S) H := hP.sub [0, 1, 2, 3] rfl
    have hDc : va_D A (bX4 ah an am af ai aj al ag cy S) := hD.sub [0, 1, 2, 3] (by decide) rfl
    refine zc_i (ws' := fun u => ((bX4 ah an am af ai aj al ag cy u) ++ ((bX3 an cy Sn) ++ ((bX1 ag cy Sg))))) (va_runV (As := [.int (-1 : Int32)]) (rest := []) ⟨hx, hb, hml, hown, htB⟩ (c_X4_refuse l D cy ah an am af ai aj al ag H.size (-1 : Int32) S h) (cwV 1 htB (zgV zm_145 zm_147 zm_148 zm_4 zm_146) rfl rfl rfl hd_X4_refuse ⟨Nat.le_of_ble_eq_true rfl, Nat.le_of_ble_eq_true rfl⟩) ⟨zM_blind, va_recv hK hP (ci := 4) (q0 := 0) rfl rfl, zM_pre hPc hK hN hDc⟩ rfl rfl hl.1 rfl (lv_room (Nat.le_of_ble_eq_true rfl)) dX4_answerOf_13 ⟨Nat.zero_le _, Nat.zero_le _⟩) hS hA hP hD [0, 1, 2, 3] [4, 5, 6, 7, 8, 9, 10, 11, 12, 13, 14, 15, 16, 17] [14, 15, 16, 17, 0, 1, 2, 3, 4, 5, 6, 7, 8, 9, 10, 11, 12, 13] (by decide) rfl (by decide) (by decide) rfl (fun u => rfl) (fun u => rfl) (fun u => rfl) (fun r13 u H locs h hP hD hS => ?_)
    obtain ⟨S_13, eu⟩ : ∃ z, z = u := ⟨_, rfl⟩
    subst eu
    replace hP : va_P D zCl ((bX4 ah an am af ai aj al ag cy S_13) ++ ((bX3 an cy Sn) ++ ((bX1 ag cy Sg)))) H := hP
    replace hD : va_D A ((bX4 ah an am af ai aj al ag cy S_13) ++ ((bX3 an cy Sn) ++ ((bX1 ag cy Sg)))) := hD
    exact W.iret (v := r13) hx hb hr (fun t ht hW => ⟨⟨_, (S_13, Sg), rfl, h, zP_h ht hP⟩, hS.F ht⟩) hS.2.2 dX4_answerOf_16
set_option maxHeartbeats 4000000 in
set_option maxRecDepth 100000 in
theorem c_X4_allLoss (l : Launch) (D : va_G) (cy : ClassId) (ah : Nat → Nat) (an : Nat → Nat) (am : Nat → Nat) (af : Nat → Nat) (ai : Nat → Nat) (aj : Nat → Nat) (al : Nat → Nat) (ag : Nat → Nat) (ao1 : Nat → Nat) (sz : Nat) (S : zT) (So1 : zT) (Sg : zT) {Q : Int32 → zT → Prop} (h : wp_X4_allLoss S So1 Sg Q) : Met l yX4_allLoss w_X4_allLoss rm_X4_allLoss (va_Pc [.ref (ah 99), .ref (ao1 99)] (zM D cy ((bX4 ah an am af ai aj al ag cy S) ++ ((bX1 ag cy Sg) ++ ((bX3 ao1 cy So1)))) sz)) (va_Qi (S := zT) (fun (r : Int32) (u : zT) => Q r u) (fun u t => va_P D zCl ((fun (u : zT) => ((bX4 ah an am af ai aj al ag cy S) ++ ((bX1 ag cy u) ++ ((bX3 ao1 cy So1))))) u) t.heap) (va_A ((bX4 ah an am af ai aj al ag cy S) ++ ((bX1 ag cy Sg) ++ ((bX3 ao1 cy So1)))) sz)) 0 0 (va_A ((bX4 ah an am af ai aj al ag cy S) ++ ((bX1 ag cy Sg) ++ ((bX3 ao1 cy So1)))) sz) := by
  refine zOf_i (by decide) (Nat.le_of_ble_eq_true rfl) ?_
  intro p e s m below meth c ls A H locs hx hb hr hml hown htB hlocks hK hN hP hD hS hA hl
  replace hl : lv_has ls 2 [(0, .ref (ah 99)), (1, .ref (ao1 99))] := hl
  refine lv_aload_n hx hb dX4_allLoss_0 rfl (lv_at hl 0 rfl) ?_
  refine va_get (D := D) (ci := 4) (v := .ref (ag 99)) (C := RX4) (T := TX4) (N := 12) hx hb htB ziX4 hown hK hP 0 rfl rfl 7 (by decide) (htB _ zm_165) (fun _ h9 => h9) rfl dX4_allLoss_1 ?_
  refine lv_aload_n hx hb dX4_allLoss_4 rfl (lv_at hl 1 rfl) ?_
  have hPc : va_P D zCl ((bX1 ag cy Sg) ++ ((bX3 ao1 cy So1))) H := hP.sub [4, 5, 6, 7, 8, 9, 10, 11, 12, 13, 14, 15, 16, 17] rfl
  have hDc : va_D A ((bX1 ag cy Sg) ++ ((bX3 ao1 cy So1))) := hD.sub [4, 5, 6, 7, 8, 9, 10, 11, 12, 13, 14, 15, 16, 17] (by decide) rfl
  refine zc_v (ws' := fun u => ((bX4 ah an am af ai aj al ag cy S) ++ ((bX1 ag cy u) ++ ((bX3 ao1 cy So1))))) (va_runV (As := [.ref (ao1 99)]) (rest := []) ⟨hx, hb, hml, hown, htB⟩ (c_X1_run l D cy ag ao1 H.size So1 Sg h) (cwV 1 htB (zgV zm_166 zm_168 zm_169 zm_57 zm_167) rfl rfl rfl hd_X1_run ⟨Nat.le_of_ble_eq_true rfl, Nat.le_of_ble_eq_true rfl⟩) ⟨zM_blind, va_recv hK hP (ci := 1) (q0 := 4) rfl rfl, zM_pre hPc hK hN hDc⟩ rfl rfl hl.1 rfl (lv_room (Nat.le_of_ble_eq_true rfl)) dX4_allLoss_5 ⟨Nat.zero_le _, Nat.zero_le _⟩) hS hA hP hD [4, 5, 6, 7, 8, 9, 10, 11, 12, 13, 14, 15, 16, 17] [0, 1, 2, 3] [0, 1, 2, 3, 4, 5, 6, 7, 8, 9, 10, 11, 12, 13, 14, 15, 16, 17] (by decide) rfl (by decide) (by decide) rfl (fun u => rfl) (fun u => rfl) (fun u => rfl) (fun u H locs h hP hD hS => ?_)
  obtain ⟨Sg_5, eu⟩ : ∃ z, z = u := ⟨_, rfl⟩
  subst eu
  replace hP : va_P D zCl ((bX4 ah an am af ai aj al ag cy S) ++ ((bX1 ag cy Sg_5) ++ ((bX3 ao1 cy So1)))) H := hP
  replace hD : va_D A ((bX4 ah an am af ai aj al ag cy S) ++ ((bX1 ag cy Sg_5) ++ ((bX3 ao1 cy So1)))) := hD
  refine lv_aload_n hx hb dX4_allLoss_8 rfl (lv_at hl 0 rfl) ?_
  refine va_get (D := D) (ci := 4) (v := .ref (ag 99)) (C := RX4) (T := TX4) (N := 12) hx hb htB ziX4 hown hK hP 0 rfl rfl 7 (by decide) (htB _ zm_165) (fun _ h9 => h9) rfl dX4_allLoss_9 ?_
  have hPc : va_P D zCl (bX1 ag cy Sg_5) H := hP.sub [4, 5, 6, 7, 8, 9, 10, 11, 12, 13, 14] rfl
  refine zc_r (va_runV (As := []) (rest := []) ⟨hx, hb, hml, hown, htB⟩ (c_X1_lossOfAll l D cy ag Sg_5 h) (cwV 0 htB (zgV zm_181 zm_183 zm_184 zm_57 zm_182) rfl rfl rfl hd_X1_lossOfAll ⟨Nat.le_of_ble_eq_true rfl, Nat.le_of_ble_eq_true rfl⟩) ⟨zR_blind, va_recv hK hP (ci := 1) (q0 := 4) rfl rfl, zR_pre hPc hK hN⟩ rfl rfl hl.1 rfl (lv_room (Nat.le_of_ble_eq_true rfl)) dX4_allLoss_12 ⟨Nat.zero_le _, Nat.zero_le _⟩) (fun r12 h => ?_)
  exact W.iret (v := r12) hx hb hr (fun t ht hW => ⟨⟨_, Sg_5, rfl, h, zP_h ht hP⟩, hS.F ht⟩) hS.2.2 dX4_allLoss_15
set_option maxHeartbeats 4000000 in
set_option maxRecDepth 100000 in
theorem c_X4_loss (l : Launch) (D : va_G) (cy : ClassId) (ah : Nat → Nat) (an : Nat → Nat) (am : Nat → Nat) (af : Nat → Nat) (ai : Nat → Nat) (aj : Nat → Nat) (al : Nat → Nat) (ag : Nat → Nat) (sz : Nat) (Sn : zT) (i1 : Int32) (S : zT) (Sg : zT) {Q : Int32 → zT → zT → Prop} (h : wp_X4_loss Sn i1 S Sg Q) : Met l yX4_loss w_X4_loss rm_X4_loss (va_Pc [.ref (ah 99), .int i1] (zM D cy ((bX4 ah an am af ai aj al ag cy S) ++ ((bX3 an cy Sn) ++ ((bX1 ag cy Sg)))) sz)) (va_Qi (S := zT × zT) (fun (r : Int32) (u : zT × zT) => Q r (u.1) (u.2)) (fun u t => va_P D zCl ((fun (u : zT × zT) => ((bX4 ah an am af ai aj al ag cy (u.1)) ++ ((bX3 an cy Sn) ++ ((bX1 ag cy (u.2)))))) u) t.heap) (va_A ((bX4 ah an am af ai aj al ag cy S) ++ ((bX3 an cy Sn) ++ ((bX1 ag cy Sg)))) sz)) 0 0 (va_A ((bX4 ah an am af ai aj al ag cy S) ++ ((bX3 an cy Sn) ++ ((bX1 ag cy Sg)))) sz) := by
  refine zOf_i (by decide) (Nat.le_of_ble_eq_true rfl) ?_
  intro p e s m below meth c ls A H locs hx hb hr hml hown htB hlocks hK hN hP hD hS hA hl
  replace hl : lv_has ls 2 [(0, .ref (ah 99)), (1, .int i1)] := hl
  refine lv_iload_n hx hb dX4_loss_0 rfl (lv_at hl 1 rfl) ?_
  refine lv_iconst (v := (-1 : Int32)) hx hb dX4_loss_1 (by decide) ?_
  refine lv_icmp_ne (tgt := 16) hx hb dX4_loss_2 (by decide) (fun c2 => ?_) (fun c2 => ?_)
  · replace h := And.right h c2
    refine lv_aload_n hx hb dX4_loss_16 rfl (lv_at hl 0 rfl) ?_
    refine lv_aload_n hx hb dX4_loss_17 rfl (lv_at hl 0 rfl) ?_
    refine va_get (D := D) (ci := 4) (v := .ref (ag 99)) (C := RX4) (T := TX4) (N := 12) hx hb htB ziX4 hown hK hP 0 rfl rfl 7 (by decide) (htB _ zm_165) (fun _ h9 => h9) rfl dX4_loss_18 ?_
    refine va_getN (D := D) (ci := 1) (v := .ref (ag 7)) (C := RX1) (T := TX1) (N := 11) hx hb htB ziX1 hown hK hP 7 rfl rfl 7 (by decide) (va_Nw.use rfl (hN _ zm_185)) (fun _ h9 => h9) rfl dX4_loss_21 ?_
    refine lv_iload_n hx hb dX4_loss_24 rfl (lv_at hl 1 rfl) ?_
    refine zc_if (ws' := fun u => ((bX4 ah an am af ai aj al ag cy (u.1)) ++ ((bX3 an cy Sn) ++ ((bX1 ag cy (u.2)))))) (va_runV (As := [.ref (ag 7), .int i1]) (rest := []) ⟨hx, hb, hml, hown, htB⟩ (c_X4_answerOf_k7 l D cy ah an am af ai aj al ag H.size Sn i1 S Sg h) (cwV 2 htB (zgV zm_172 zm_174 zm_175 zm_4 zm_173) rfl rfl rfl hd_X4_answerOf ⟨Nat.le_of_ble_eq_true rfl, Nat.le_of_ble_eq_true rfl⟩) ⟨zM_blind, va_recv hK hP (ci := 4) (q0 := 0) rfl rfl, zM_pre hP hK hN hD⟩ rfl rfl hl.1 rfl (lv_room (Nat.le_of_ble_eq_true rfl)) dX4_loss_25 ⟨Nat.zero_le _, Nat.zero_le _⟩) hS hA hP hD (fun u => rfl) (fun u => rfl) (fun r25 u H locs h hP hD hS => ?_)
    obtain ⟨S_25, Sg_25⟩ := u
    replace hP : va_P D zCl ((bX4 ah an am af ai aj al ag cy S_25) ++ ((bX3 an cy Sn) ++ ((bX1 ag cy Sg_25)))) H := hP
    replace hD : va_D A ((bX4 ah an am af ai aj al ag cy S_25) ++ ((bX3 an cy Sn) ++ ((bX1 ag cy Sg_25)))) := hD
    exact W.iret (v := r25) hx hb hr (fun t ht hW => ⟨⟨_, (S_25, Sg_25), rfl, h, zP_h ht hP⟩, hS.F ht⟩) hS.2.2 dX4_loss_28
  · replace h := And.left h c2
    refine lv_aload_n hx hb dX4_loss_5 rfl (lv_at hl 0 rfl) ?_
    refine lv_aload_n hx hb dX4_loss_6 rfl (lv_at hl 0 rfl) ?_
    refine va_get (D := D) (ci := 4) (v := .ref (an 99)) (C := RX4) (T := TX4) (N := 12) hx hb htB ziX4 hown hK hP 0 rfl rfl 0 (by decide) (htB _ zm_155) (fun _ h9 => h9) rfl dX4_loss_7 ?_
    have hPc : va_P D zCl ((bX4 ah an am af ai aj al ag cy S) ++ ((bX1 ag cy Sg) ++ ((bX3 an cy Sn)))) H := hP.sub [0, 1, 2, 3, 7, 8, 9, 10, 11, 12, 13, 14, 15, 16, 17, 4, 5, 6] rfl
    have hDc : va_D A ((bX4 ah an am af ai aj al ag cy S) ++ ((bX1 ag cy Sg) ++ ((bX3 an cy Sn)))) := hD.sub [0, 1, 2, 3, 7, 8, 9, 10, 11, 12, 13, 14, 15, 16, 17, 4, 5, 6] (by decide) rfl
    refine zc_i (ws' := fun u => ((bX4 ah an am af ai aj al ag cy S) ++ ((bX3 an cy Sn) ++ ((bX1 ag cy u))))) (va_runV (As := [.ref (an 99)]) (rest := []) ⟨hx, hb, hml, hown, htB⟩ (c_X4_allLoss l D cy ah an am af ai aj al ag an H.size S Sn Sg h) (cwV 1 htB (zgV zm_186 zm_188 zm_189 zm_4 zm_187) rfl rfl rfl hd_X4_allLoss ⟨Nat.le_of_ble_eq_true rfl, Nat.le_of_ble_eq_true rfl⟩) ⟨zM_blind, va_recv hK hP (ci := 4) (q0 := 0) rfl rfl, zM_pre hPc hK hN hDc⟩ rfl rfl hl.1 rfl (lv_room (Nat.le_of_ble_eq_true rfl)) dX4_loss_10 ⟨Nat.zero_le _, Nat.zero_le _⟩) hS hA hP hD [0, 1, 2, 3, 7, 8, 9, 10, 11, 12, 13, 14, 15, 16, 17, 4, 5, 6] [] [0, 1, 2, 3, 15, 16, 17, 4, 5, 6, 7, 8, 9, 10, 11, 12, 13, 14] (by decide) rfl (by decide) (by decide) rfl (fun u => rfl) (fun u => rfl) (fun u => rfl) (fun r10 u H locs h hP hD hS => ?_)
    obtain ⟨Sg_10, eu⟩ : ∃ z, z = u := ⟨_, rfl⟩
    subst eu
    replace hP : va_P D zCl ((bX4 ah an am af ai aj al ag cy S) ++ ((bX3 an cy Sn) ++ ((bX1 ag cy Sg_10)))) H := hP
    replace hD : va_D A ((bX4 ah an am af ai aj al ag cy S) ++ ((bX3 an cy Sn) ++ ((bX1 ag cy Sg_10)))) := hD
    refine lv_goto (tgt := 28) hx hb dX4_loss_13 (by decide) ?_
    exact W.iret (v := r10) hx hb hr (fun t ht hW => ⟨⟨_, (S, Sg_10), rfl, h, zP_h ht hP⟩, hS.F ht⟩) hS.2.2 dX4_loss_28
set_option maxHeartbeats 4000000 in
set_option maxRecDepth 100000 in
theorem c_X4_holds (l : Launch) (D : va_G) (cy : ClassId) (ah : Nat → Nat) (an : Nat → Nat) (am : Nat → Nat) (af : Nat → Nat) (ai : Nat → Nat) (aj : Nat → Nat) (al : Nat → Nat) (ag : Nat → Nat) (sz : Nat) (S : zT) (Sn : zT) (Sg : zT) {Q : Int32 → zT → Prop} (h : wp_X4_holds S Sn Sg Q) : Met l yX4_holds w_X4_holds rm_X4_holds (va_Pc [.ref (ah 99)] (zM D cy ((bX4 ah an am af ai aj al ag cy S) ++ ((bX3 an cy Sn) ++ ((bX1 ag cy Sg)))) sz)) (va_Qi (S := zT) (fun (r : Int32) (u : zT) => Q r u) (fun u t => va_P D zCl ((fun (u : zT) => ((bX4 ah an am af ai aj al ag cy S) ++ ((bX3 an cy Sn) ++ ((bX1 ag cy u))))) u) t.heap) (va_A ((bX4 ah an am af ai aj al ag cy S) ++ ((bX3 an cy Sn) ++ ((bX1 ag cy Sg)))) sz)) 0 0 (va_A ((bX4 ah an am af ai aj al ag cy S) ++ ((bX3 an cy Sn) ++ ((bX1 ag cy Sg)))) sz) := by
  refine zOf_i (by decide) (Nat.le_of_ble_eq_true rfl) ?_
  intro p e s m below meth c ls A H locs hx hb hr hml hown htB hlocks hK hN hP hD hS hA hl
  replace hl : lv_has ls 1 [(0, .ref (ah 99))] := hl
  refine lv_aload_n hx hb dX4_holds_0 rfl (lv_at hl 0 rfl) ?_
  refine va_get (D := D) (ci := 4) (v := .ref (ag 99)) (C := RX4) (T := TX4) (N := 12) hx hb htB ziX4 hown hK hP 0 rfl rfl 7 (by decide) (htB _ zm_165) (fun _ h9 => h9) rfl dX4_holds_1 ?_
  refine lv_aload_n hx hb dX4_holds_4 rfl (lv_at hl 0 rfl) ?_
  refine va_get (D := D) (ci := 4) (v := .ref (an 99)) (C := RX4) (T := TX4) (N := 12) hx hb htB ziX4 hown hK hP 0 rfl rfl 0 (by decide) (htB _ zm_155) (fun _ h9 => h9) rfl dX4_holds_5 ?_
  have hPc : va_P D zCl ((bX1 ag cy Sg) ++ ((bX3 an cy Sn))) H := hP.sub [7, 8, 9, 10, 11, 12, 13, 14, 15, 16, 17, 4, 5, 6] rfl
  have hDc : va_D A ((bX1 ag cy Sg) ++ ((bX3 an cy Sn))) := hD.sub [7, 8, 9, 10, 11, 12, 13, 14, 15, 16, 17, 4, 5, 6] (by decide) rfl
  refine zc_v (ws' := fun u => ((bX4 ah an am af ai aj al ag cy S) ++ ((bX3 an cy Sn) ++ ((bX1 ag cy u))))) (va_runV (As := [.ref (an 99)]) (rest := []) ⟨hx, hb, hml, hown, htB⟩ (c_X1_run l D cy ag an H.size Sn Sg h) (cwV 1 htB (zgV zm_166 zm_168 zm_169 zm_57 zm_167) rfl rfl rfl hd_X1_run ⟨Nat.le_of_ble_eq_true rfl, Nat.le_of_ble_eq_true rfl⟩) ⟨zM_blind, va_recv hK hP (ci := 1) (q0 := 7) rfl rfl, zM_pre hPc hK hN hDc⟩ rfl rfl hl.1 rfl (lv_room (Nat.le_of_ble_eq_true rfl)) dX4_holds_8 ⟨Nat.zero_le _, Nat.zero_le _⟩) hS hA hP hD [7, 8, 9, 10, 11, 12, 13, 14, 15, 16, 17, 4, 5, 6] [0, 1, 2, 3] [0, 1, 2, 3, 15, 16, 17, 4, 5, 6, 7, 8, 9, 10, 11, 12, 13, 14] (by decide) rfl (by decide) (by decide) rfl (fun u => rfl) (fun u => rfl) (fun u => rfl) (fun u H locs h hP hD hS => ?_)
  obtain ⟨Sg_8, eu⟩ : ∃ z, z = u := ⟨_, rfl⟩
  subst eu
  replace hP : va_P D zCl ((bX4 ah an am af ai aj al ag cy S) ++ ((bX3 an cy Sn) ++ ((bX1 ag cy Sg_8)))) H := hP
  replace hD : va_D A ((bX4 ah an am af ai aj al ag cy S) ++ ((bX3 an cy Sn) ++ ((bX1 ag cy Sg_8)))) := hD
  refine lv_aload_n hx hb dX4_holds_11 rfl (lv_at hl 0 rfl) ?_
  refine va_get (D := D) (ci := 4) (v := .ref (ag 99)) (C := RX4) (T := TX4) (N := 12) hx hb htB ziX4 hown hK hP 0 rfl rfl 7 (by decide) (htB _ zm_165) (fun _ h9 => h9) rfl dX4_holds_12 ?_
  have hPc : va_P D zCl (bX1 ag cy Sg_8) H := hP.sub [7, 8, 9, 10, 11, 12, 13, 14, 15, 16, 17] rfl
  refine zc_r (va_runV (As := []) (rest := []) ⟨hx, hb, hml, hown, htB⟩ (c_X1_countHeldFor l D cy ag Sg_8 h) (cwV 0 htB (zgV zm_190 zm_192 zm_193 zm_57 zm_191) rfl rfl rfl hd_X1_countHeldFor ⟨Nat.le_of_ble_eq_true rfl, Nat.le_of_ble_eq_true rfl⟩) ⟨zR_blind, va_recv hK hP (ci := 1) (q0 := 7) rfl rfl, zR_pre hPc hK hN⟩ rfl rfl hl.1 rfl (lv_room (Nat.le_of_ble_eq_true rfl)) dX4_holds_15 ⟨Nat.zero_le _, Nat.zero_le _⟩) (fun r15 h => ?_)
  exact W.iret (v := r15) hx hb hr (fun t ht hW => ⟨⟨_, Sg_8, rfl, h, zP_h ht hP⟩, hS.F ht⟩) hS.2.2 dX4_holds_18
set_option maxHeartbeats 4000000 in
set_option maxRecDepth 100000 in
theorem c_X4_longest (l : Launch) (D : va_G) (cy : ClassId) (ah : Nat → Nat) (an : Nat → Nat) (am : Nat → Nat) (af : Nat → Nat) (ai : Nat → Nat) (aj : Nat → Nat) (al : Nat → Nat) (ag : Nat → Nat) (sz : Nat) (S : zT) (Sn : zT) (Sg : zT) {Q : Int32 → zT → Prop} (h : wp_X4_longest S Sn Sg Q) : Met l yX4_longest w_X4_longest rm_X4_longest (va_Pc [.ref (ah 99)] (zM D cy ((bX4 ah an am af ai aj al ag cy S) ++ ((bX3 an cy Sn) ++ ((bX1 ag cy Sg)))) sz)) (va_Qi (S := zT) (fun (r : Int32) (u : zT) => Q r u) (fun u t => va_P D zCl ((fun (u : zT) => ((bX4 ah an am af ai aj al ag cy S) ++ ((bX3 an cy Sn) ++ ((bX1 ag cy u))))) u) t.heap) (va_A ((bX4 ah an am af ai aj al ag cy S) ++ ((bX3 an cy Sn) ++ ((bX1 ag cy Sg)))) sz)) 0 0 (va_A ((bX4 ah an am af ai aj al ag cy S) ++ ((bX3 an cy Sn) ++ ((bX1 ag cy Sg)))) sz) := by
  refine zOf_i (by decide) (Nat.le_of_ble_eq_true rfl) ?_
  intro p e s m below meth c ls A H locs hx hb hr hml hown htB hlocks hK hN hP hD hS hA hl
  replace hl : lv_has ls 1 [(0, .ref (ah 99))] := hl
  refine lv_aload_n hx hb dX4_longest_0 rfl (lv_at hl 0 rfl) ?_
  refine va_get (D := D) (ci := 4) (v := .ref (ag 99)) (C := RX4) (T := TX4) (N := 12) hx hb htB ziX4 hown hK hP 0 rfl rfl 7 (by decide) (htB _ zm_165) (fun _ h9 => h9) rfl dX4_longest_1 ?_
  refine lv_aload_n hx hb dX4_longest_4 rfl (lv_at hl 0 rfl) ?_
  refine va_get (D := D) (ci := 4) (v := .ref (an 99)) (C := RX4) (T := TX4) (N := 12) hx hb htB ziX4 hown hK hP 0 rfl rfl 0 (by decide) (htB _ zm_155) (fun _ h9 => h9) rfl dX4_longest_5 ?_
  have hPc : va_P D zCl ((bX1 ag cy Sg) ++ ((bX3 an cy Sn))) H := hP.sub [7, 8, 9, 10, 11, 12, 13, 14, 15, 16, 17, 4, 5, 6] rfl
  have hDc : va_D A ((bX1 ag cy Sg) ++ ((bX3 an cy Sn))) := hD.sub [7, 8, 9, 10, 11, 12, 13, 14, 15, 16, 17, 4, 5, 6] (by decide) rfl
  refine zc_v (ws' := fun u => ((bX4 ah an am af ai aj al ag cy S) ++ ((bX3 an cy Sn) ++ ((bX1 ag cy u))))) (va_runV (As := [.ref (an 99)]) (rest := []) ⟨hx, hb, hml, hown, htB⟩ (c_X1_run l D cy ag an H.size Sn Sg h) (cwV 1 htB (zgV zm_166 zm_168 zm_169 zm_57 zm_167) rfl rfl rfl hd_X1_run ⟨Nat.le_of_ble_eq_true rfl, Nat.le_of_ble_eq_true rfl⟩) ⟨zM_blind, va_recv hK hP (ci := 1) (q0 := 7) rfl rfl, zM_pre hPc hK hN hDc⟩ rfl rfl hl.1 rfl (lv_room (Nat.le_of_ble_eq_true rfl)) dX4_longest_8 ⟨Nat.zero_le _, Nat.zero_le _⟩) hS hA hP hD [7, 8, 9, 10, 11, 12, 13, 14, 15, 16, 17, 4, 5, 6] [0, 1, 2, 3] [0, 1, 2, 3, 15, 16, 17, 4, 5, 6, 7, 8, 9, 10, 11, 12, 13, 14] (by decide) rfl (by decide) (by decide) rfl (fun u => rfl) (fun u => rfl) (fun u => rfl) (fun u H locs h hP hD hS => ?_)
  obtain ⟨Sg_8, eu⟩ : ∃ z, z = u := ⟨_, rfl⟩
  subst eu
  replace hP : va_P D zCl ((bX4 ah an am af ai aj al ag cy S) ++ ((bX3 an cy Sn) ++ ((bX1 ag cy Sg_8)))) H := hP
  replace hD : va_D A ((bX4 ah an am af ai aj al ag cy S) ++ ((bX3 an cy Sn) ++ ((bX1 ag cy Sg_8)))) := hD
  refine lv_aload_n hx hb dX4_longest_11 rfl (lv_at hl 0 rfl) ?_
  refine va_get (D := D) (ci := 4) (v := .ref (ag 99)) (C := RX4) (T := TX4) (N := 12) hx hb htB ziX4 hown hK hP 0 rfl rfl 7 (by decide) (htB _ zm_165) (fun _ h9 => h9) rfl dX4_longest_12 ?_
  have hPc : va_P D zCl (bX1 ag cy Sg_8) H := hP.sub [7, 8, 9, 10, 11, 12, 13, 14, 15, 16, 17] rfl
  refine zc_r (va_runV (As := []) (rest := []) ⟨hx, hb, hml, hown, htB⟩ (c_X1_longestStand l D cy ag Sg_8 h) (cwV 0 htB (zgV zm_194 zm_196 zm_197 zm_57 zm_195) rfl rfl rfl hd_X1_longestStand ⟨Nat.le_of_ble_eq_true rfl, Nat.le_of_ble_eq_true rfl⟩) ⟨zR_blind, va_recv hK hP (ci := 1) (q0 := 7) rfl rfl, zR_pre hPc hK hN⟩ rfl rfl hl.1 rfl (lv_room (Nat.le_of_ble_eq_true rfl)) dX4_longest_15 ⟨Nat.zero_le _, Nat.zero_le _⟩) (fun r15 h => ?_)
  exact W.iret (v := r15) hx hb hr (fun t ht hW => ⟨⟨_, Sg_8, rfl, h, zP_h ht hP⟩, hS.F ht⟩) hS.2.2 dX4_longest_18
set_option maxHeartbeats 4000000 in
set_option maxRecDepth 100000 in
theorem c_X4_away (l : Launch) (D : va_G) (cy : ClassId) (ah : Nat → Nat) (an : Nat → Nat) (am : Nat → Nat) (af : Nat → Nat) (ai : Nat → Nat) (aj : Nat → Nat) (al : Nat → Nat) (ag : Nat → Nat) (sz : Nat) (S : zT) (Sn : zT) (Sg : zT) {Q : Int32 → zT → Prop} (h : wp_X4_away S Sn Sg Q) : Met l yX4_away w_X4_away rm_X4_away (va_Pc [.ref (ah 99)] (zM D cy ((bX4 ah an am af ai aj al ag cy S) ++ ((bX3 an cy Sn) ++ ((bX1 ag cy Sg)))) sz)) (va_Qi (S := zT) (fun (r : Int32) (u : zT) => Q r u) (fun u t => va_P D zCl ((fun (u : zT) => ((bX4 ah an am af ai aj al ag cy S) ++ ((bX3 an cy Sn) ++ ((bX1 ag cy u))))) u) t.heap) (va_A ((bX4 ah an am af ai aj al ag cy S) ++ ((bX3 an cy Sn) ++ ((bX1 ag cy Sg)))) sz)) 0 0 (va_A ((bX4 ah an am af ai aj al ag cy S) ++ ((bX3 an cy Sn) ++ ((bX1 ag cy Sg)))) sz) := by
  refine zOf_i (by decide) (Nat.le_of_ble_eq_true rfl) ?_
  intro p e s m below meth c ls A H locs hx hb hr hml hown htB hlocks hK hN hP hD hS hA hl
  replace hl : lv_has ls 1 [(0, .ref (ah 99))] := hl
  refine lv_aload_n hx hb dX4_away_0 rfl (lv_at hl 0 rfl) ?_
  refine va_get (D := D) (ci := 4) (v := .ref (an 99)) (C := RX4) (T := TX4) (N := 12) hx hb htB ziX4 hown hK hP 0 rfl rfl 0 (by decide) (htB _ zm_155) (fun _ h9 => h9) rfl dX4_away_1 ?_
  refine va_getN (D := D) (ci := 3) (v := .int (Sn 2 0)) (C := RX3) (T := TX3) (N := 3) hx hb htB ziX3 hown hK hP 4 rfl rfl 2 (by decide) (va_Nw.use rfl (hN _ zm_164)) (fun _ h9 => h9) rfl dX4_away_4 ?_
  refine lv_if_ne (tgt := 13) hx hb dX4_away_7 (by decide) (fun c7 => ?_) (fun c7 => ?_)
  · replace h := And.right h c7
    refine lv_aload_n hx hb dX4_away_13 rfl (lv_at hl 0 rfl) ?_
    refine va_get (D := D) (ci := 4) (v := .ref (ag 99)) (C := RX4) (T := TX4) (N := 12) hx hb htB ziX4 hown hK hP 0 rfl rfl 7 (by decide) (htB _ zm_165) (fun _ h9 => h9) rfl dX4_away_14 ?_
    refine lv_aload_n hx hb dX4_away_17 rfl (lv_at hl 0 rfl) ?_
    refine va_get (D := D) (ci := 4) (v := .ref (an 99)) (C := RX4) (T := TX4) (N := 12) hx hb htB ziX4 hown hK hP 0 rfl rfl 0 (by decide) (htB _ zm_155) (fun _ h9 => h9) rfl dX4_away_18 ?_
    have hPc : va_P D zCl ((bX1 ag cy Sg) ++ ((bX3 an cy Sn))) H := hP.sub [7, 8, 9, 10, 11, 12, 13, 14, 15, 16, 17, 4, 5, 6] rfl
    have hDc : va_D A ((bX1 ag cy Sg) ++ ((bX3 an cy Sn))) := hD.sub [7, 8, 9, 10, 11, 12, 13, 14, 15, 16, 17, 4, 5, 6] (by decide) rfl
    refine zc_v (ws' := fun u => ((bX4 ah an am af ai aj al ag cy S) ++ ((bX3 an cy Sn) ++ ((bX1 ag cy u))))) (va_runV (As := [.ref (an 99)]) (rest := []) ⟨hx, hb, hml, hown, htB⟩ (c_X1_run l D cy ag an H.size Sn Sg h) (cwV 1 htB (zgV zm_166 zm_168 zm_169 zm_57 zm_167) rfl rfl rfl hd_X1_run ⟨Nat.le_of_ble_eq_true rfl, Nat.le_of_ble_eq_true rfl⟩) ⟨zM_blind, va_recv hK hP (ci := 1) (q0 := 7) rfl rfl, zM_pre hPc hK hN hDc⟩ rfl rfl hl.1 rfl (lv_room (Nat.le_of_ble_eq_true rfl)) dX4_away_21 ⟨Nat.zero_le _, Nat.zero_le _⟩) hS hA hP hD [7, 8, 9, 10, 11, 12, 13, 14, 15, 16, 17, 4, 5, 6] [0, 1, 2, 3] [0, 1, 2, 3, 15, 16, 17, 4, 5, 6, 7, 8, 9, 10, 11, 12, 13, 14] (by decide) rfl (by decide) (by decide) rfl (fun u => rfl) (fun u => rfl) (fun u => rfl) (fun u H locs h hP hD hS => ?_)
    obtain ⟨Sg_21, eu⟩ : ∃ z, z = u := ⟨_, rfl⟩
    subst eu
    replace hP : va_P D zCl ((bX4 ah an am af ai aj al ag cy S) ++ ((bX3 an cy Sn) ++ ((bX1 ag cy Sg_21)))) H := hP
    replace hD : va_D A ((bX4 ah an am af ai aj al ag cy S) ++ ((bX3 an cy Sn) ++ ((bX1 ag cy Sg_21)))) := hD
    refine lv_aload_n hx hb dX4_away_24 rfl (lv_at hl 0 rfl) ?_
    refine va_get (D := D) (ci := 4) (v := .ref (ag 99)) (C := RX4) (T := TX4) (N := 12) hx hb htB ziX4 hown hK hP 0 rfl rfl 7 (by decide) (htB _ zm_165) (fun _ h9 => h9) rfl dX4_away_25 ?_
    refine lv_aload_n hx hb dX4_away_28 rfl (lv_at hl 0 rfl) ?_
    refine va_get (D := D) (ci := 4) (v := .ref (ag 99)) (C := RX4) (T := TX4) (N := 12) hx hb htB ziX4 hown hK hP 0 rfl rfl 7 (by decide) (htB _ zm_165) (fun _ h9 => h9) rfl dX4_away_29 ?_
    refine va_getN (D := D) (ci := 1) (v := .ref (ag 0)) (C := RX1) (T := TX1) (N := 11) hx hb htB ziX1 hown hK hP 7 rfl rfl 0 (by decide) (va_Nw.use rfl (hN _ zm_170)) (fun _ h9 => h9) rfl dX4_away_32 ?_
    refine lv_iconst (v := (0 : Int32)) hx hb dX4_away_35 (by decide) ?_
    have hPc : va_P D zCl [((ag 0), .inl (cy, 8, .inl (Sg_21 0)))] H := hP.sub [8] rfl
    refine zc_r (va_runS (As := [.ref (ag 0), .int (0 : Int32)]) (rest := [.ref (ag 99)]) ⟨hx, hb, hml, hown, htB⟩ (c_X4_at l D cy (ag 0) 8 (Sg_21 0) (0 : Int32) h) (cwS 2 htB (zgS zm_143 zm_14 zm_4 zm_13) rfl rfl rfl hd_X4_at ⟨Nat.le_of_ble_eq_true rfl, Nat.le_of_ble_eq_true rfl⟩) ⟨zR_blind, zR_pre hPc hK hN⟩ rfl rfl hl.1 rfl (lv_room (Nat.le_of_ble_eq_true rfl)) dX4_away_36 ⟨Nat.zero_le _, Nat.zero_le _⟩) (fun r36 h => ?_)
    have hPc : va_P D zCl (bX1 ag cy Sg_21) H := hP.sub [7, 8, 9, 10, 11, 12, 13, 14, 15, 16, 17] rfl
    refine zc_r (va_runV (As := [.int r36]) (rest := []) ⟨hx, hb, hml, hown, htB⟩ (c_X1_goneAt l D cy ag Sg_21 r36 h) (cwV 1 htB (zgV zm_198 zm_58 zm_59 zm_57 zm_56) rfl rfl rfl hd_X1_goneAt ⟨Nat.le_of_ble_eq_true rfl, Nat.le_of_ble_eq_true rfl⟩) ⟨zR_blind, va_recv hK hP (ci := 1) (q0 := 7) rfl rfl, zR_pre hPc hK hN⟩ rfl rfl hl.1 rfl (lv_room (Nat.le_of_ble_eq_true rfl)) dX4_away_39 ⟨Nat.zero_le _, Nat.zero_le _⟩) (fun r39 h => ?_)
    exact W.iret (v := r39) hx hb hr (fun t ht hW => ⟨⟨_, Sg_21, rfl, h, zP_h ht hP⟩, hS.F ht⟩) hS.2.2 dX4_away_42
  · replace h := And.left h c7
    refine lv_bipush (v := (-9 : Int32)) hx hb dX4_away_10 (by decide) ?_
    exact W.iret (v := (-9 : Int32)) hx hb hr (fun t ht hW => ⟨⟨_, Sg, rfl, h, zP_h ht hP⟩, hS.F ht⟩) hS.2.2 dX4_away_12
set_option maxHeartbeats 4000000 in
set_option maxRecDepth 100000 in
theorem c_X4_open (l : Launch) (D : va_G) (cy : ClassId) (ah : Nat → Nat) (an : Nat → Nat) (am : Nat → Nat) (af : Nat → Nat) (ai : Nat → Nat) (aj : Nat → Nat) (al : Nat → Nat) (ag : Nat → Nat) (sz : Nat) (S : zT) (Sn : zT) (Sg : zT) {Q : Int32 → zT → Prop} (h : wp_X4_open S Sn Sg Q) : Met l yX4_open w_X4_open rm_X4_open (va_Pc [.ref (ah 99)] (zM D cy ((bX4 ah an am af ai aj al ag cy S) ++ ((bX3 an cy Sn) ++ ((bX1 ag cy Sg)))) sz)) (va_Qi (S := zT) (fun (r : Int32) (u : zT) => Q r u) (fun u t => va_P D zCl ((fun (u : zT) => ((bX4 ah an am af ai aj al ag cy S) ++ ((bX3 an cy Sn) ++ ((bX1 ag cy u))))) u) t.heap) (va_A ((bX4 ah an am af ai aj al ag cy S) ++ ((bX3 an cy Sn) ++ ((bX1 ag cy Sg)))) sz)) 0 0 (va_A ((bX4 ah an am af ai aj al ag cy S) ++ ((bX3 an cy Sn) ++ ((bX1 ag cy Sg)))) sz) := by
  refine zOf_i (by decide) (Nat.le_of_ble_eq_true rfl) ?_
  intro p e s m below meth c ls A H locs hx hb hr hml hown htB hlocks hK hN hP hD hS hA hl
  replace hl : lv_has ls 1 [(0, .ref (ah 99))] := hl
  refine lv_aload_n hx hb dX4_open_0 rfl (lv_at hl 0 rfl) ?_
  refine va_get (D := D) (ci := 4) (v := .ref (ag 99)) (C := RX4) (T := TX4) (N := 12) hx hb htB ziX4 hown hK hP 0 rfl rfl 7 (by decide) (htB _ zm_165) (fun _ h9 => h9) rfl dX4_open_1 ?_
  refine lv_aload_n hx hb dX4_open_4 rfl (lv_at hl 0 rfl) ?_
  refine va_get (D := D) (ci := 4) (v := .ref (an 99)) (C := RX4) (T := TX4) (N := 12) hx hb htB ziX4 hown hK hP 0 rfl rfl 0 (by decide) (htB _ zm_155) (fun _ h9 => h9) rfl dX4_open_5 ?_
  have hPc : va_P D zCl ((bX1 ag cy Sg) ++ ((bX3 an cy Sn))) H := hP.sub [7, 8, 9, 10, 11, 12, 13, 14, 15, 16, 17, 4, 5, 6] rfl
  have hDc : va_D A ((bX1 ag cy Sg) ++ ((bX3 an cy Sn))) := hD.sub [7, 8, 9, 10, 11, 12, 13, 14, 15, 16, 17, 4, 5, 6] (by decide) rfl
  refine zc_v (ws' := fun u => ((bX4 ah an am af ai aj al ag cy S) ++ ((bX3 an cy Sn) ++ ((bX1 ag cy u))))) (va_runV (As := [.ref (an 99)]) (rest := []) ⟨hx, hb, hml, hown, htB⟩ (c_X1_run l D cy ag an H.size Sn Sg h) (cwV 1 htB (zgV zm_166 zm_168 zm_169 zm_57 zm_167) rfl rfl rfl hd_X1_run ⟨Nat.le_of_ble_eq_true rfl, Nat.le_of_ble_eq_true rfl⟩) ⟨zM_blind, va_recv hK hP (ci := 1) (q0 := 7) rfl rfl, zM_pre hPc hK hN hDc⟩ rfl rfl hl.1 rfl (lv_room (Nat.le_of_ble_eq_true rfl)) dX4_open_8 ⟨Nat.zero_le _, Nat.zero_le _⟩) hS hA hP hD [7, 8, 9, 10, 11, 12, 13, 14, 15, 16, 17, 4, 5, 6] [0, 1, 2, 3] [0, 1, 2, 3, 15, 16, 17, 4, 5, 6, 7, 8, 9, 10, 11, 12, 13, 14] (by decide) rfl (by decide) (by decide) rfl (fun u => rfl) (fun u => rfl) (fun u => rfl) (fun u H locs h hP hD hS => ?_)
  obtain ⟨Sg_8, eu⟩ : ∃ z, z = u := ⟨_, rfl⟩
  subst eu
  replace hP : va_P D zCl ((bX4 ah an am af ai aj al ag cy S) ++ ((bX3 an cy Sn) ++ ((bX1 ag cy Sg_8)))) H := hP
  replace hD : va_D A ((bX4 ah an am af ai aj al ag cy S) ++ ((bX3 an cy Sn) ++ ((bX1 ag cy Sg_8)))) := hD
  refine lv_aload_n hx hb dX4_open_11 rfl (lv_at hl 0 rfl) ?_
  refine va_get (D := D) (ci := 4) (v := .ref (ag 99)) (C := RX4) (T := TX4) (N := 12) hx hb htB ziX4 hown hK hP 0 rfl rfl 7 (by decide) (htB _ zm_165) (fun _ h9 => h9) rfl dX4_open_12 ?_
  refine lv_aload_n hx hb dX4_open_15 rfl (lv_at hl 0 rfl) ?_
  refine va_get (D := D) (ci := 4) (v := .ref (an 99)) (C := RX4) (T := TX4) (N := 12) hx hb htB ziX4 hown hK hP 0 rfl rfl 0 (by decide) (htB _ zm_155) (fun _ h9 => h9) rfl dX4_open_16 ?_
  refine lv_iconst (v := (0 : Int32)) hx hb dX4_open_19 (by decide) ?_
  have hPc : va_P D zCl (bX3 an cy Sn) H := hP.sub [4, 5, 6] rfl
  refine zc_r (va_runV (As := [.int (0 : Int32)]) (rest := [.ref (ag 99)]) ⟨hx, hb, hml, hown, htB⟩ (c_X3_door l D cy an Sn (0 : Int32) h) (cwV 1 htB (zgV zm_199 zm_29 zm_30 zm_28 zm_27) rfl rfl rfl hd_X3_door ⟨Nat.le_of_ble_eq_true rfl, Nat.le_of_ble_eq_true rfl⟩) ⟨zR_blind, va_recv hK hP (ci := 3) (q0 := 4) rfl rfl, zR_pre hPc hK hN⟩ rfl rfl hl.1 rfl (lv_room (Nat.le_of_ble_eq_true rfl)) dX4_open_20 ⟨Nat.zero_le _, Nat.zero_le _⟩) (fun r20 h => ?_)
  have hPc : va_P D zCl (bX1 ag cy Sg_8) H := hP.sub [7, 8, 9, 10, 11, 12, 13, 14, 15, 16, 17] rfl
  refine zc_r (va_runV (As := [.int r20]) (rest := []) ⟨hx, hb, hml, hown, htB⟩ (c_X1_openSeconds l D cy ag Sg_8 r20 h) (cwV 1 htB (zgV zm_200 zm_202 zm_203 zm_57 zm_201) rfl rfl rfl hd_X1_openSeconds ⟨Nat.le_of_ble_eq_true rfl, Nat.le_of_ble_eq_true rfl⟩) ⟨zR_blind, va_recv hK hP (ci := 1) (q0 := 7) rfl rfl, zR_pre hPc hK hN⟩ rfl rfl hl.1 rfl (lv_room (Nat.le_of_ble_eq_true rfl)) dX4_open_23 ⟨Nat.zero_le _, Nat.zero_le _⟩) (fun r23 h => ?_)
  exact W.iret (v := r23) hx hb hr (fun t ht hW => ⟨⟨_, Sg_8, rfl, h, zP_h ht hP⟩, hS.F ht⟩) hS.2.2 dX4_open_26
set_option maxHeartbeats 4000000 in
set_option maxRecDepth 100000 in
theorem c_X4_coals (l : Launch) (D : va_G) (cy : ClassId) (ah : Nat → Nat) (an : Nat → Nat) (am : Nat → Nat) (af : Nat → Nat) (ai : Nat → Nat) (aj : Nat → Nat) (al : Nat → Nat) (ag : Nat → Nat) (sz : Nat) (S : zT) (Sn : zT) (Sg : zT) {Q : Int32 → zT → Prop} (h : wp_X4_coals S Sn Sg Q) : Met l yX4_coals w_X4_coals rm_X4_coals (va_Pc [.ref (ah 99)] (zM D cy ((bX4 ah an am af ai aj al ag cy S) ++ ((bX3 an cy Sn) ++ ((bX1 ag cy Sg)))) sz)) (va_Qi (S := zT) (fun (r : Int32) (u : zT) => Q r u) (fun u t => va_P D zCl ((fun (u : zT) => ((bX4 ah an am af ai aj al ag cy S) ++ ((bX3 an cy Sn) ++ ((bX1 ag cy u))))) u) t.heap) (va_A ((bX4 ah an am af ai aj al ag cy S) ++ ((bX3 an cy Sn) ++ ((bX1 ag cy Sg)))) sz)) 0 0 (va_A ((bX4 ah an am af ai aj al ag cy S) ++ ((bX3 an cy Sn) ++ ((bX1 ag cy Sg)))) sz) := by
  refine zOf_i (by decide) (Nat.le_of_ble_eq_true rfl) ?_
  intro p e s m below meth c ls A H locs hx hb hr hml hown htB hlocks hK hN hP hD hS hA hl
  replace hl : lv_has ls 1 [(0, .ref (ah 99))] := hl
  refine lv_aload_n hx hb dX4_coals_0 rfl (lv_at hl 0 rfl) ?_
  refine va_get (D := D) (ci := 4) (v := .ref (ag 99)) (C := RX4) (T := TX4) (N := 12) hx hb htB ziX4 hown hK hP 0 rfl rfl 7 (by decide) (htB _ zm_165) (fun _ h9 => h9) rfl dX4_coals_1 ?_
  refine lv_aload_n hx hb dX4_coals_4 rfl (lv_at hl 0 rfl) ?_
  refine va_get (D := D) (ci := 4) (v := .ref (an 99)) (C := RX4) (T := TX4) (N := 12) hx hb htB ziX4 hown hK hP 0 rfl rfl 0 (by decide) (htB _ zm_155) (fun _ h9 => h9) rfl dX4_coals_5 ?_
  have hPc : va_P D zCl ((bX1 ag cy Sg) ++ ((bX3 an cy Sn))) H := hP.sub [7, 8, 9, 10, 11, 12, 13, 14, 15, 16, 17, 4, 5, 6] rfl
  have hDc : va_D A ((bX1 ag cy Sg) ++ ((bX3 an cy Sn))) := hD.sub [7, 8, 9, 10, 11, 12, 13, 14, 15, 16, 17, 4, 5, 6] (by decide) rfl
  refine zc_v (ws' := fun u => ((bX4 ah an am af ai aj al ag cy S) ++ ((bX3 an cy Sn) ++ ((bX1 ag cy u))))) (va_runV (As := [.ref (an 99)]) (rest := []) ⟨hx, hb, hml, hown, htB⟩ (c_X1_run l D cy ag an H.size Sn Sg h) (cwV 1 htB (zgV zm_166 zm_168 zm_169 zm_57 zm_167) rfl rfl rfl hd_X1_run ⟨Nat.le_of_ble_eq_true rfl, Nat.le_of_ble_eq_true rfl⟩) ⟨zM_blind, va_recv hK hP (ci := 1) (q0 := 7) rfl rfl, zM_pre hPc hK hN hDc⟩ rfl rfl hl.1 rfl (lv_room (Nat.le_of_ble_eq_true rfl)) dX4_coals_8 ⟨Nat.zero_le _, Nat.zero_le _⟩) hS hA hP hD [7, 8, 9, 10, 11, 12, 13, 14, 15, 16, 17, 4, 5, 6] [0, 1, 2, 3] [0, 1, 2, 3, 15, 16, 17, 4, 5, 6, 7, 8, 9, 10, 11, 12, 13, 14] (by decide) rfl (by decide) (by decide) rfl (fun u => rfl) (fun u => rfl) (fun u => rfl) (fun u H locs h hP hD hS => ?_)
  obtain ⟨Sg_8, eu⟩ : ∃ z, z = u := ⟨_, rfl⟩
  subst eu
  replace hP : va_P D zCl ((bX4 ah an am af ai aj al ag cy S) ++ ((bX3 an cy Sn) ++ ((bX1 ag cy Sg_8)))) H := hP
  replace hD : va_D A ((bX4 ah an am af ai aj al ag cy S) ++ ((bX3 an cy Sn) ++ ((bX1 ag cy Sg_8)))) := hD
  refine lv_aload_n hx hb dX4_coals_11 rfl (lv_at hl 0 rfl) ?_
  refine va_get (D := D) (ci := 4) (v := .ref (ag 99)) (C := RX4) (T := TX4) (N := 12) hx hb htB ziX4 hown hK hP 0 rfl rfl 7 (by decide) (htB _ zm_165) (fun _ h9 => h9) rfl dX4_coals_12 ?_
  refine lv_aload_n hx hb dX4_coals_15 rfl (lv_at hl 0 rfl) ?_
  refine va_get (D := D) (ci := 4) (v := .ref (an 99)) (C := RX4) (T := TX4) (N := 12) hx hb htB ziX4 hown hK hP 0 rfl rfl 0 (by decide) (htB _ zm_155) (fun _ h9 => h9) rfl dX4_coals_16 ?_
  refine lv_iconst (v := (0 : Int32)) hx hb dX4_coals_19 (by decide) ?_
  have hPc : va_P D zCl (bX3 an cy Sn) H := hP.sub [4, 5, 6] rfl
  refine zc_r (va_runV (As := [.int (0 : Int32)]) (rest := [.ref (ag 99)]) ⟨hx, hb, hml, hown, htB⟩ (c_X3_door l D cy an Sn (0 : Int32) h) (cwV 1 htB (zgV zm_199 zm_29 zm_30 zm_28 zm_27) rfl rfl rfl hd_X3_door ⟨Nat.le_of_ble_eq_true rfl, Nat.le_of_ble_eq_true rfl⟩) ⟨zR_blind, va_recv hK hP (ci := 3) (q0 := 4) rfl rfl, zR_pre hPc hK hN⟩ rfl rfl hl.1 rfl (lv_room (Nat.le_of_ble_eq_true rfl)) dX4_coals_20 ⟨Nat.zero_le _, Nat.zero_le _⟩) (fun r20 h => ?_)
  have hPc : va_P D zCl (bX1 ag cy Sg_8) H := hP.sub [7, 8, 9, 10, 11, 12, 13, 14, 15, 16, 17] rfl
  refine zc_r (va_runV (As := [.int r20]) (rest := []) ⟨hx, hb, hml, hown, htB⟩ (c_X1_openSeconds l D cy ag Sg_8 r20 h) (cwV 1 htB (zgV zm_200 zm_202 zm_203 zm_57 zm_201) rfl rfl rfl hd_X1_openSeconds ⟨Nat.le_of_ble_eq_true rfl, Nat.le_of_ble_eq_true rfl⟩) ⟨zR_blind, va_recv hK hP (ci := 1) (q0 := 7) rfl rfl, zR_pre hPc hK hN⟩ rfl rfl hl.1 rfl (lv_room (Nat.le_of_ble_eq_true rfl)) dX4_coals_23 ⟨Nat.zero_le _, Nat.zero_le _⟩) (fun r23 h => ?_)
  refine lv_aload_n hx hb dX4_coals_26 rfl (lv_at hl 0 rfl) ?_
  refine va_get (D := D) (ci := 4) (v := .ref (an 99)) (C := RX4) (T := TX4) (N := 12) hx hb htB ziX4 hown hK hP 0 rfl rfl 0 (by decide) (htB _ zm_155) (fun _ h9 => h9) rfl dX4_coals_27 ?_
  refine lv_iconst (v := (2 : Int32)) hx hb dX4_coals_30 (by decide) ?_
  have hPc : va_P D zCl (bX3 an cy Sn) H := hP.sub [4, 5, 6] rfl
  refine zc_r (va_runV (As := [.int (2 : Int32)]) (rest := [.int r23]) ⟨hx, hb, hml, hown, htB⟩ (c_X3_door l D cy an Sn (2 : Int32) h) (cwV 1 htB (zgV zm_199 zm_29 zm_30 zm_28 zm_27) rfl rfl rfl hd_X3_door ⟨Nat.le_of_ble_eq_true rfl, Nat.le_of_ble_eq_true rfl⟩) ⟨zR_blind, va_recv hK hP (ci := 3) (q0 := 4) rfl rfl, zR_pre hPc hK hN⟩ rfl rfl hl.1 rfl (lv_room (Nat.le_of_ble_eq_true rfl)) dX4_coals_31 ⟨Nat.zero_le _, Nat.zero_le _⟩) (fun r31 h => ?_)
  refine lv_imul hx hb dX4_coals_34 ?_
  exact W.iret (v := (r23 * r31)) hx hb hr (fun t ht hW => ⟨⟨_, Sg_8, rfl, h, zP_h ht hP⟩, hS.F ht⟩) hS.2.2 dX4_coals_35
set_option maxHeartbeats 4000000 in
set_option maxRecDepth 100000 in
theorem c_X4_byOther (l : Launch) (D : va_G) (cy : ClassId) (ah : Nat → Nat) (an : Nat → Nat) (am : Nat → Nat) (af : Nat → Nat) (ai : Nat → Nat) (aj : Nat → Nat) (al : Nat → Nat) (ag : Nat → Nat) (sz : Nat) (Sn : zT) (i1 : Int32) (i2 : Int32) (S : zT) (Sm : zT) (Sg : zT) {Q : Int32 → zT → zT → zT → Prop} (h : wp_X4_byOther Sn i1 i2 S Sm Sg Q) : Met l yX4_byOther w_X4_byOther rm_X4_byOther (va_Pc [.ref (ah 99), .int i1, .int i2] (zM D cy ((bX4 ah an am af ai aj al ag cy S) ++ ((bX3 an cy Sn) ++ ((bX3 am cy Sm) ++ ((bX1 ag cy Sg))))) sz)) (va_Qi (S := zT × zT × zT) (fun (r : Int32) (u : zT × zT × zT) => Q r (u.1) (u.2.1) (u.2.2)) (fun u t => va_P D zCl ((fun (u : zT × zT × zT) => ((bX4 ah an am af ai aj al ag cy (u.1)) ++ ((bX3 an cy Sn) ++ ((bX3 am cy (u.2.1)) ++ ((bX1 ag cy (u.2.2))))))) u) t.heap) (va_A ((bX4 ah an am af ai aj al ag cy S) ++ ((bX3 an cy Sn) ++ ((bX3 am cy Sm) ++ ((bX1 ag cy Sg))))) sz)) 0 0 (va_A ((bX4 ah an am af ai aj al ag cy S) ++ ((bX3 an cy Sn) ++ ((bX3 am cy Sm) ++ ((bX1 ag cy Sg))))) sz) := by
  refine zOf_i (by decide) (Nat.le_of_ble_eq_true rfl) ?_
  intro p e s m below meth c ls A H locs hx hb hr hml hown htB hlocks hK hN hP hD hS hA hl
  replace hl : lv_has ls 3 [(0, .ref (ah 99)), (1, .int i1), (2, .int i2)] := hl
  refine lv_iload_n hx hb dX4_byOther_0 rfl (lv_at hl 1 rfl) ?_
  have hPc : va_P D zCl ([] : va_W) H := hP.sub [] rfl
  refine zc_r (va_runS (As := [.int i1]) (rest := []) ⟨hx, hb, hml, hown, htB⟩ (c_X4_isCustom l D cy  i1 h) (cwS 1 htB (zgS zm_160 zm_121 zm_4 zm_120) rfl rfl rfl hd_X4_isCustom ⟨Nat.le_of_ble_eq_true rfl, Nat.le_of_ble_eq_true rfl⟩) ⟨zR_blind, zR_pre hPc hK hN⟩ rfl rfl hl.1 rfl (lv_room (Nat.le_of_ble_eq_true rfl)) dX4_byOther_1 ⟨Nat.zero_le _, Nat.zero_le _⟩) (fun r1 h => ?_)
  refine lv_if_ne (tgt := 14) hx hb dX4_byOther_4 (by decide) (fun c4 => ?_) (fun c4 => ?_)
  · replace h := And.right h c4
    refine lv_iload_n hx hb dX4_byOther_14 rfl (lv_at hl 2 rfl) ?_
    refine lv_if_ge (tgt := 25) hx hb dX4_byOther_15 (by decide) (fun c15 => ?_) (fun c15 => ?_)
    · replace h := And.left h c15
      refine lv_iload_n hx hb dX4_byOther_25 rfl (lv_at hl 2 rfl) ?_
      refine lv_bipush (v := (40 : Int32)) hx hb dX4_byOther_26 (by decide) ?_
      refine lv_icmp_le (tgt := 38) hx hb dX4_byOther_28 (by decide) (fun c28 => ?_) (fun c28 => ?_)
      · replace h := And.left h c28
        refine lv_aload_n hx hb dX4_byOther_38 rfl (lv_at hl 0 rfl) ?_
        refine va_get (D := D) (ci := 4) (v := .ref (am 99)) (C := RX4) (T := TX4) (N := 12) hx hb htB ziX4 hown hK hP 0 rfl rfl 1 (by decide) (htB _ zm_204) (fun _ h9 => h9) rfl dX4_byOther_39 ?_
        refine lv_aload_n hx hb dX4_byOther_42 rfl (lv_at hl 0 rfl) ?_
        refine va_get (D := D) (ci := 4) (v := .ref (an 99)) (C := RX4) (T := TX4) (N := 12) hx hb htB ziX4 hown hK hP 0 rfl rfl 0 (by decide) (htB _ zm_155) (fun _ h9 => h9) rfl dX4_byOther_43 ?_
        have hPc : va_P D zCl ((bX3 am cy Sm) ++ ((bX3 an cy Sn))) H := hP.sub [7, 8, 9, 4, 5, 6] rfl
        have hDc : va_D A ((bX3 am cy Sm) ++ ((bX3 an cy Sn))) := hD.sub [7, 8, 9, 4, 5, 6] (by decide) rfl
        refine zc_v (ws' := fun u => ((bX4 ah an am af ai aj al ag cy S) ++ ((bX3 an cy Sn) ++ ((bX3 am cy u) ++ ((bX1 ag cy Sg)))))) (va_runV (As := [.ref (an 99)]) (rest := []) ⟨hx, hb, hml, hown, htB⟩ (c_X3_become l D cy am an H.size Sn Sm h) (cwV 1 htB (zgV zm_205 zm_207 zm_208 zm_28 zm_206) rfl rfl rfl hd_X3_become ⟨Nat.le_of_ble_eq_true rfl, Nat.le_of_ble_eq_true rfl⟩) ⟨zM_blind, va_recv hK hP (ci := 3) (q0 := 7) rfl rfl, zM_pre hPc hK hN hDc⟩ rfl rfl hl.1 rfl (lv_room (Nat.le_of_ble_eq_true rfl)) dX4_byOther_46 ⟨Nat.zero_le _, Nat.zero_le _⟩) hS hA hP hD [7, 8, 9, 4, 5, 6] [0, 1, 2, 3, 10, 11, 12, 13, 14, 15, 16, 17, 18, 19, 20] [0, 1, 2, 3, 18, 19, 20, 15, 16, 17, 4, 5, 6, 7, 8, 9, 10, 11, 12, 13, 14] (by decide) rfl (by decide) (by decide) rfl (fun u => rfl) (fun u => rfl) (fun u => rfl) (fun u H locs h hP hD hS => ?_)
        obtain ⟨Sm_46, eu⟩ : ∃ z, z = u := ⟨_, rfl⟩
        subst eu
        replace hP : va_P D zCl ((bX4 ah an am af ai aj al ag cy S) ++ ((bX3 an cy Sn) ++ ((bX3 am cy Sm_46) ++ ((bX1 ag cy Sg))))) H := hP
        replace hD : va_D A ((bX4 ah an am af ai aj al ag cy S) ++ ((bX3 an cy Sn) ++ ((bX3 am cy Sm_46) ++ ((bX1 ag cy Sg))))) := hD
        refine lv_aload_n hx hb dX4_byOther_49 rfl (lv_at hl 0 rfl) ?_
        refine va_get (D := D) (ci := 4) (v := .ref (am 99)) (C := RX4) (T := TX4) (N := 12) hx hb htB ziX4 hown hK hP 0 rfl rfl 1 (by decide) (htB _ zm_204) (fun _ h9 => h9) rfl dX4_byOther_50 ?_
        refine lv_iconst (v := (4 : Int32)) hx hb dX4_byOther_53 (by decide) ?_
        refine lv_iload_n hx hb dX4_byOther_54 rfl (lv_at hl 1 rfl) ?_
        have hPc : va_P D zCl (bX3 am cy Sm_46) H := hP.sub [7, 8, 9] rfl
        have hDc : va_D A (bX3 am cy Sm_46) := hD.sub [7, 8, 9] (by decide) rfl
        refine zc_i (ws' := fun u => ((bX4 ah an am af ai aj al ag cy S) ++ ((bX3 an cy Sn) ++ ((bX3 am cy u) ++ ((bX1 ag cy Sg)))))) (va_runV (As := [.int (4 : Int32), .int i1]) (rest := []) ⟨hx, hb, hml, hown, htB⟩ (c_X3_change l D cy am H.size (4 : Int32) i1 Sm_46 h) (cwV 2 htB (zgV zm_159 zm_135 zm_136 zm_28 zm_134) rfl rfl rfl hd_X3_change ⟨Nat.le_of_ble_eq_true rfl, Nat.le_of_ble_eq_true rfl⟩) ⟨zM_blind, va_recv hK hP (ci := 3) (q0 := 7) rfl rfl, zM_pre hPc hK hN hDc⟩ rfl rfl hl.1 rfl (lv_room (Nat.le_of_ble_eq_true rfl)) dX4_byOther_55 ⟨Nat.zero_le _, Nat.zero_le _⟩) hS hA hP hD [7, 8, 9] [0, 1, 2, 3, 4, 5, 6, 10, 11, 12, 13, 14, 15, 16, 17, 18, 19, 20] [0, 1, 2, 3, 4, 5, 6, 18, 19, 20, 7, 8, 9, 10, 11, 12, 13, 14, 15, 16, 17] (by decide) rfl (by decide) (by decide) rfl (fun u => rfl) (fun u => rfl) (fun u => rfl) (fun r55 u H locs h hP hD hS => ?_)
        obtain ⟨Sm_55, eu⟩ : ∃ z, z = u := ⟨_, rfl⟩
        subst eu
        replace hP : va_P D zCl ((bX4 ah an am af ai aj al ag cy S) ++ ((bX3 an cy Sn) ++ ((bX3 am cy Sm_55) ++ ((bX1 ag cy Sg))))) H := hP
        replace hD : va_D A ((bX4 ah an am af ai aj al ag cy S) ++ ((bX3 an cy Sn) ++ ((bX3 am cy Sm_55) ++ ((bX1 ag cy Sg))))) := hD
        refine lv_pop hx hb dX4_byOther_58 rfl ?_
        refine lv_aload_n hx hb dX4_byOther_59 rfl (lv_at hl 0 rfl) ?_
        refine va_get (D := D) (ci := 4) (v := .ref (am 99)) (C := RX4) (T := TX4) (N := 12) hx hb htB ziX4 hown hK hP 0 rfl rfl 1 (by decide) (htB _ zm_204) (fun _ h9 => h9) rfl dX4_byOther_60 ?_
        refine lv_iconst (v := (3 : Int32)) hx hb dX4_byOther_63 (by decide) ?_
        refine lv_iload_n hx hb dX4_byOther_64 rfl (lv_at hl 2 rfl) ?_
        have hPc : va_P D zCl (bX3 am cy Sm_55) H := hP.sub [7, 8, 9] rfl
        have hDc : va_D A (bX3 am cy Sm_55) := hD.sub [7, 8, 9] (by decide) rfl
        refine zc_i (ws' := fun u => ((bX4 ah an am af ai aj al ag cy S) ++ ((bX3 an cy Sn) ++ ((bX3 am cy u) ++ ((bX1 ag cy Sg)))))) (va_runV (As := [.int (3 : Int32), .int i2]) (rest := []) ⟨hx, hb, hml, hown, htB⟩ (c_X3_change l D cy am H.size (3 : Int32) i2 Sm_55 h) (cwV 2 htB (zgV zm_159 zm_135 zm_136 zm_28 zm_134) rfl rfl rfl hd_X3_change ⟨Nat.le_of_ble_eq_true rfl, Nat.le_of_ble_eq_true rfl⟩) ⟨zM_blind, va_recv hK hP (ci := 3) (q0 := 7) rfl rfl, zM_pre hPc hK hN hDc⟩ rfl rfl hl.1 rfl (lv_room (Nat.le_of_ble_eq_true rfl)) dX4_byOther_65 ⟨Nat.zero_le _, Nat.zero_le _⟩) hS hA hP hD [7, 8, 9] [0, 1, 2, 3, 4, 5, 6, 10, 11, 12, 13, 14, 15, 16, 17, 18, 19, 20] [0, 1, 2, 3, 4, 5, 6, 18, 19, 20, 7, 8, 9, 10, 11, 12, 13, 14, 15, 16, 17] (by decide) rfl (by decide) (by decide) rfl (fun u => rfl) (fun u => rfl) (fun u => rfl) (fun r65 u H locs h hP hD hS => ?_)
        obtain ⟨Sm_65, eu⟩ : ∃ z, z = u := ⟨_, rfl⟩
        subst eu
        replace hP : va_P D zCl ((bX4 ah an am af ai aj al ag cy S) ++ ((bX3 an cy Sn) ++ ((bX3 am cy Sm_65) ++ ((bX1 ag cy Sg))))) H := hP
        replace hD : va_D A ((bX4 ah an am af ai aj al ag cy S) ++ ((bX3 an cy Sn) ++ ((bX3 am cy Sm_65) ++ ((bX1 ag cy Sg))))) := hD
        refine lv_pop hx hb dX4_byOther_68 rfl ?_
        refine lv_aload_n hx hb dX4_byOther_69 rfl (lv_at hl 0 rfl) ?_
        refine lv_aload_n hx hb dX4_byOther_70 rfl (lv_at hl 0 rfl) ?_
        refine va_get (D := D) (ci := 4) (v := .ref (am 99)) (C := RX4) (T := TX4) (N := 12) hx hb htB ziX4 hown hK hP 0 rfl rfl 1 (by decide) (htB _ zm_204) (fun _ h9 => h9) rfl dX4_byOther_71 ?_
        have hPc : va_P D zCl ((bX4 ah an am af ai aj al ag cy S) ++ ((bX1 ag cy Sg) ++ ((bX3 am cy Sm_65)))) H := hP.sub [0, 1, 2, 3, 10, 11, 12, 13, 14, 15, 16, 17, 18, 19, 20, 7, 8, 9] rfl
        have hDc : va_D A ((bX4 ah an am af ai aj al ag cy S) ++ ((bX1 ag cy Sg) ++ ((bX3 am cy Sm_65)))) := hD.sub [0, 1, 2, 3, 10, 11, 12, 13, 14, 15, 16, 17, 18, 19, 20, 7, 8, 9] (by decide) rfl
        refine zc_i (ws' := fun u => ((bX4 ah an am af ai aj al ag cy S) ++ ((bX3 an cy Sn) ++ ((bX3 am cy Sm_65) ++ ((bX1 ag cy u)))))) (va_runV (As := [.ref (am 99)]) (rest := []) ⟨hx, hb, hml, hown, htB⟩ (c_X4_allLoss l D cy ah an am af ai aj al ag am H.size S Sm_65 Sg h) (cwV 1 htB (zgV zm_186 zm_188 zm_189 zm_4 zm_187) rfl rfl rfl hd_X4_allLoss ⟨Nat.le_of_ble_eq_true rfl, Nat.le_of_ble_eq_true rfl⟩) ⟨zM_blind, va_recv hK hP (ci := 4) (q0 := 0) rfl rfl, zM_pre hPc hK hN hDc⟩ rfl rfl hl.1 rfl (lv_room (Nat.le_of_ble_eq_true rfl)) dX4_byOther_74 ⟨Nat.zero_le _, Nat.zero_le _⟩) hS hA hP hD [0, 1, 2, 3, 10, 11, 12, 13, 14, 15, 16, 17, 18, 19, 20, 7, 8, 9] [4, 5, 6] [3, 4, 5, 6, 0, 1, 2, 18, 19, 20, 7, 8, 9, 10, 11, 12, 13, 14, 15, 16, 17] (by decide) rfl (by decide) (by decide) rfl (fun u => rfl) (fun u => rfl) (fun u => rfl) (fun r74 u H locs h hP hD hS => ?_)
        obtain ⟨Sg_74, eu⟩ : ∃ z, z = u := ⟨_, rfl⟩
        subst eu
        replace hP : va_P D zCl ((bX4 ah an am af ai aj al ag cy S) ++ ((bX3 an cy Sn) ++ ((bX3 am cy Sm_65) ++ ((bX1 ag cy Sg_74))))) H := hP
        replace hD : va_D A ((bX4 ah an am af ai aj al ag cy S) ++ ((bX3 an cy Sn) ++ ((bX3 am cy Sm_65) ++ ((bX1 ag cy Sg_74))))) := hD
        exact W.iret (v := r74) hx hb hr (fun t ht hW => ⟨⟨_, (S, Sm_65, Sg_74), rfl, h, zP_h ht hP⟩, hS.F ht⟩) hS.2.2 dX4_byOther_77
      · replace h := And.right h c28
        refine lv_aload_n hx hb dX4_byOther_31 rfl (lv_at hl 0 rfl) ?_
        refine lv_bipush (v := (-6 : Int32)) hx hb dX4_byOther_32 (by decide) ?_
        have hPc : va_P D zCl (bX4 ah an am af ai aj al ag cy S) H := hP.sub [0, 1, 2, 3] rfl
        have hDc : va_D A (bX4 ah an am af ai aj al ag cy S) := hD.sub [0, 1, 2, 3] (by decide) rfl
        refine zc_i (ws' := fun u => ((bX4 ah an am af ai aj al ag cy u) ++ ((bX3 an cy Sn) ++ ((bX3 am cy Sm) ++ ((bX1 ag cy Sg)))))) (va_runV (As := [.int (-6 : Int32)]) (rest := []) ⟨hx, hb, hml, hown, htB⟩ (c_X4_refuse l D cy ah an am af ai aj al ag H.size (-6 : Int32) S h) (cwV 1 htB (zgV zm_145 zm_147 zm_148 zm_4 zm_146) rfl rfl rfl hd_X4_refuse ⟨Nat.le_of_ble_eq_true rfl, Nat.le_of_ble_eq_true rfl⟩) ⟨zM_blind, va_recv hK hP (ci := 4) (q0 := 0) rfl rfl, zM_pre hPc hK hN hDc⟩ rfl rfl hl.1 rfl (lv_room (Nat.le_of_ble_eq_true rfl)) dX4_byOther_34 ⟨Nat.zero_le _, Nat.zero_le _⟩) hS hA hP hD [0, 1, 2, 3] [4, 5, 6, 7, 8, 9, 10, 11, 12, 13, 14, 15, 16, 17, 18, 19, 20] [17, 18, 19, 20, 0, 1, 2, 3, 4, 5, 6, 7, 8, 9, 10, 11, 12, 13, 14, 15, 16] (by decide) rfl (by decide) (by decide) rfl (fun u => rfl) (fun u => rfl) (fun u => rfl) (fun r34 u H locs h hP hD hS => ?_)
        obtain ⟨S_34, eu⟩ : ∃ z, z = u := ⟨_, rfl⟩
        subst eu
        replace hP : va_P D zCl ((bX4 ah an am af ai aj al ag cy S_34) ++ ((bX3 an cy Sn) ++ ((bX3 am cy Sm) ++ ((bX1 ag cy Sg))))) H := hP
        replace hD : va_D A ((bX4 ah an am af ai aj al ag cy S_34) ++ ((bX3 an cy Sn) ++ ((bX3 am cy Sm) ++ ((bX1 ag cy Sg))))) := hD
        exact W.iret (v := r34) hx hb hr (fun t ht hW => ⟨⟨_, (S_34, Sm, Sg), rfl, h, zP_h ht hP⟩, hS.F ht⟩) hS.2.2 dX4_byOther_37
    · replace h := And.right h c15
      refine lv_aload_n hx hb dX4_byOther_18 rfl (lv_at hl 0 rfl) ?_
      refine lv_bipush (v := (-4 : Int32)) hx hb dX4_byOther_19 (by decide) ?_
      have hPc : va_P D zCl (bX4 ah an am af ai aj al ag cy S) H := hP.sub [0, 1, 2, 3] rfl
      have hDc : va_D A (bX4 ah an am af ai aj al ag cy S) := hD.sub [0, 1, 2, 3] (by decide) rfl
      refine zc_i (ws' := fun u => ((bX4 ah an am af ai aj al ag cy u) ++ ((bX3 an cy Sn) ++ ((bX3 am cy Sm) ++ ((bX1 ag cy Sg)))))) (va_runV (As := [.int (-4 : Int32)]) (rest := []) ⟨hx, hb, hml, hown, htB⟩ (c_X4_refuse l D cy ah an am af ai aj al ag H.size (-4 : Int32) S h) (cwV 1 htB (zgV zm_145 zm_147 zm_148 zm_4 zm_146) rfl rfl rfl hd_X4_refuse ⟨Nat.le_of_ble_eq_true rfl, Nat.le_of_ble_eq_true rfl⟩) ⟨zM_blind, va_recv hK hP (ci := 4) (q0 := 0) rfl rfl, zM_pre hPc hK hN hDc⟩ rfl rfl hl.1 rfl (lv_room (Nat.le_of_ble_eq_true rfl)) dX4_byOther_21 ⟨Nat.zero_le _, Nat.zero_le _⟩) hS hA hP hD [0, 1, 2, 3] [4, 5, 6, 7, 8, 9, 10, 11, 12, 13, 14, 15, 16, 17, 18, 19, 20] [17, 18, 19, 20, 0, 1, 2, 3, 4, 5, 6, 7, 8, 9, 10, 11, 12, 13, 14, 15, 16] (by decide) rfl (by decide) (by decide) rfl (fun u => rfl) (fun u => rfl) (fun u => rfl) (fun r21 u H locs h hP hD hS => ?_)
      obtain ⟨S_21, eu⟩ : ∃ z, z = u := ⟨_, rfl⟩
      subst eu
      replace hP : va_P D zCl ((bX4 ah an am af ai aj al ag cy S_21) ++ ((bX3 an cy Sn) ++ ((bX3 am cy Sm) ++ ((bX1 ag cy Sg))))) H := hP
      replace hD : va_D A ((bX4 ah an am af ai aj al ag cy S_21) ++ ((bX3 an cy Sn) ++ ((bX3 am cy Sm) ++ ((bX1 ag cy Sg))))) := hD
      exact W.iret (v := r21) hx hb hr (fun t ht hW => ⟨⟨_, (S_21, Sm, Sg), rfl, h, zP_h ht hP⟩, hS.F ht⟩) hS.2.2 dX4_byOther_24
  · replace h := And.left h c4
    refine lv_aload_n hx hb dX4_byOther_7 rfl (lv_at hl 0 rfl) ?_
    refine lv_bipush (v := (-2 : Int32)) hx hb dX4_byOther_8 (by decide) ?_
    have hPc : va_P D zCl (bX4 ah an am af ai aj al ag cy S) H := hP.sub [0, 1, 2, 3] rfl
    have hDc : va_D A (bX4 ah an am af ai aj al ag cy S) := hD.sub [0, 1, 2, 3] (by decide) rfl
    refine zc_i (ws' := fun u => ((bX4 ah an am af ai aj al ag cy u) ++ ((bX3 an cy Sn) ++ ((bX3 am cy Sm) ++ ((bX1 ag cy Sg)))))) (va_runV (As := [.int (-2 : Int32)]) (rest := []) ⟨hx, hb, hml, hown, htB⟩ (c_X4_refuse l D cy ah an am af ai aj al ag H.size (-2 : Int32) S h) (cwV 1 htB (zgV zm_145 zm_147 zm_148 zm_4 zm_146) rfl rfl rfl hd_X4_refuse ⟨Nat.le_of_ble_eq_true rfl, Nat.le_of_ble_eq_true rfl⟩) ⟨zM_blind, va_recv hK hP (ci := 4) (q0 := 0) rfl rfl, zM_pre hPc hK hN hDc⟩ rfl rfl hl.1 rfl (lv_room (Nat.le_of_ble_eq_true rfl)) dX4_byOther_10 ⟨Nat.zero_le _, Nat.zero_le _⟩) hS hA hP hD [0, 1, 2, 3] [4, 5, 6, 7, 8, 9, 10, 11, 12, 13, 14, 15, 16, 17, 18, 19, 20] [17, 18, 19, 20, 0, 1, 2, 3, 4, 5, 6, 7, 8, 9, 10, 11, 12, 13, 14, 15, 16] (by decide) rfl (by decide) (by decide) rfl (fun u => rfl) (fun u => rfl) (fun u => rfl) (fun r10 u H locs h hP hD hS => ?_)
    obtain ⟨S_10, eu⟩ : ∃ z, z = u := ⟨_, rfl⟩
    subst eu
    replace hP : va_P D zCl ((bX4 ah an am af ai aj al ag cy S_10) ++ ((bX3 an cy Sn) ++ ((bX3 am cy Sm) ++ ((bX1 ag cy Sg))))) H := hP
    replace hD : va_D A ((bX4 ah an am af ai aj al ag cy S_10) ++ ((bX3 an cy Sn) ++ ((bX3 am cy Sm) ++ ((bX1 ag cy Sg))))) := hD
    exact W.iret (v := r10) hx hb hr (fun t ht hW => ⟨⟨_, (S_10, Sm, Sg), rfl, h, zP_h ht hP⟩, hS.F ht⟩) hS.2.2 dX4_byOther_13
set_option maxHeartbeats 4000000 in
set_option maxRecDepth 100000 in
theorem c_X4_leastLossOver (l : Launch) (D : va_G) (cy : ClassId) (ah : Nat → Nat) (an : Nat → Nat) (am : Nat → Nat) (af : Nat → Nat) (ai : Nat → Nat) (aj : Nat → Nat) (al : Nat → Nat) (ag : Nat → Nat) (sz : Nat) (S : zT) (Sn : zT) (i1 : Int32) (i2 : Int32) (Sm : zT) (Sg : zT) {Q : Int32 → zT → zT → Prop} (h : wp_X4_leastLossOver S Sn i1 i2 Sm Sg Q) : Met l yX4_leastLossOver w_X4_leastLossOver rm_X4_leastLossOver (va_Pc [.ref (ah 99), .int i1, .int i2] (zM D cy ((bX4 ah an am af ai aj al ag cy S) ++ ((bX3 an cy Sn) ++ ((bX3 am cy Sm) ++ ((bX1 ag cy Sg))))) sz)) (va_Qi (S := zT × zT) (fun (r : Int32) (u : zT × zT) => Q r (u.1) (u.2)) (fun u t => va_P D zCl ((fun (u : zT × zT) => ((bX4 ah an am af ai aj al ag cy S) ++ ((bX3 an cy Sn) ++ ((bX3 am cy (u.1)) ++ ((bX1 ag cy (u.2))))))) u) t.heap) (va_A ((bX4 ah an am af ai aj al ag cy S) ++ ((bX3 an cy Sn) ++ ((bX3 am cy Sm) ++ ((bX1 ag cy Sg))))) sz)) 0 0 (va_A ((bX4 ah an am af ai aj al ag cy S) ++ ((bX3 an cy Sn) ++ ((bX3 am cy Sm) ++ ((bX1 ag cy Sg))))) sz) := by
  refine zOf_i (by decide) (Nat.le_of_ble_eq_true rfl) ?_
  intro p e s m below meth c ls A H locs hx hb hr hml hown htB hlocks hK hN hP hD hS hA hl
  replace hl : lv_has ls 7 [(0, .ref (ah 99)), (1, .int i1), (2, .int i2)] := hl
  have L19 : ∀ (k19 : Nat) (x3 : Int32) (x4 : Int32) (x5 : Int32) (Sm : zT) (Sg : zT), wpl_X4_leastLossOver_19 S Sn i1 i2 Q k19 x3 x4 x5 Sm Sg → ∀ (H : Heap) (locs : List Loc), va_P D zCl ((bX4 ah an am af ai aj al ag cy S) ++ ((bX3 an cy Sn) ++ ((bX3 am cy Sm) ++ ((bX1 ag cy Sg))))) H → va_D A ((bX4 ah an am af ai aj al ag cy S) ++ ((bX3 an cy Sn) ++ ((bX3 am cy Sm) ++ ((bX1 ag cy Sg))))) → va_S A s.heap H locs → ∀ ls : Array Slot, lv_has ls 7 [(0, .ref (ah 99)), (1, .int i1), (2, .int i2), (3, .int x3), (4, .int x4), (5, .int x5)] → W p l e rm_X4_leastLossOver s m ([.ref (ah 99), .int i1, .int i2] : List Value).toArray below meth c H locs 0 0 (MQ below (va_Qi (S := zT × zT) (fun (r : Int32) (u : zT × zT) => Q r (u.1) (u.2)) (fun u t => va_P D zCl ((fun (u : zT × zT) => ((bX4 ah an am af ai aj al ag cy S) ++ ((bX3 an cy Sn) ++ ((bX3 am cy (u.1)) ++ ((bX1 ag cy (u.2))))))) u) t.heap) A) ([.ref (ah 99), .int i1, .int i2] : List Value).toArray s 0 0 A) (F0 m 19 ls []) := by
    intro k19
    induction k19 with
    | zero => exact fun x3 x4 x5 Sm Sg h => False.elim h
    | succ k19 ih19 =>
      have L65 : ∀ (x3 : Int32) (x4 : Int32) (x5 : Int32) (Sm : zT) (Sg : zT), wpb_X4_leastLossOver_65 S Sn i1 i2 Q (wpl_X4_leastLossOver_19 S Sn i1 i2 Q k19) x3 x4 x5 Sm Sg → ∀ (H : Heap) (locs : List Loc), va_P D zCl ((bX4 ah an am af ai aj al ag cy S) ++ ((bX3 an cy Sn) ++ ((bX3 am cy Sm) ++ ((bX1 ag cy Sg))))) H → va_D A ((bX4 ah an am af ai aj al ag cy S) ++ ((bX3 an cy Sn) ++ ((bX3 am cy Sm) ++ ((bX1 ag cy Sg))))) → va_S A s.heap H locs → ∀ ls : Array Slot, lv_has ls 7 [(0, .ref (ah 99)), (1, .int i1), (2, .int i2), (3, .int x3), (4, .int x4), (5, .int x5)] → W p l e rm_X4_leastLossOver s m ([.ref (ah 99), .int i1, .int i2] : List Value).toArray below meth c H locs 0 0 (MQ below (va_Qi (S := zT × zT) (fun (r : Int32) (u : zT × zT) => Q r (u.1) (u.2)) (fun u t => va_P D zCl ((fun (u : zT × zT) => ((bX4 ah an am af ai aj al ag cy S) ++ ((bX3 an cy Sn) ++ ((bX3 am cy (u.1)) ++ ((bX1 ag cy (u.2))))))) u) t.heap) A) ([.ref (ah 99), .int i1, .int i2] : List Value).toArray s 0 0 A) (F0 m 65 ls []) := by
        intro x3 x4 x5 Sm Sg h H locs hP hD hS ls hl
        obtain ⟨y65, ey65⟩ : ∃ z : Int32, z = (x5 + (1 : Int32)) := ⟨_, rfl⟩
        replace h := h y65 ey65
        refine lv_iinc (v := y65) (lv' := [(5, .int y65), (0, .ref (ah 99)), (1, .int i1), (2, .int i2), (3, .int x3), (4, .int x4)]) hx hb dX4_leastLossOver_65 hl (k := 5) rfl (by rw [ey65]; rfl) (by decide) rfl (fun ls hl => ?_)
        refine lv_goto (tgt := 19) hx hb dX4_leastLossOver_68 (by decide) ?_
        exact ih19 x3 x4 y65 Sm Sg h H locs hP hD hS ls (lv_sub hl [1, 2, 3, 4, 5, 0] rfl)
      have L58 : ∀ (x5 : Int32) (x6 : Int32) (Sm : zT) (Sg : zT), wpb_X4_leastLossOver_58 S Sn i1 i2 Q (wpl_X4_leastLossOver_19 S Sn i1 i2 Q k19) x5 x6 Sm Sg → ∀ (H : Heap) (locs : List Loc), va_P D zCl ((bX4 ah an am af ai aj al ag cy S) ++ ((bX3 an cy Sn) ++ ((bX3 am cy Sm) ++ ((bX1 ag cy Sg))))) H → va_D A ((bX4 ah an am af ai aj al ag cy S) ++ ((bX3 an cy Sn) ++ ((bX3 am cy Sm) ++ ((bX1 ag cy Sg))))) → va_S A s.heap H locs → ∀ ls : Array Slot, lv_has ls 7 [(0, .ref (ah 99)), (1, .int i1), (2, .int i2), (5, .int x5), (6, .int x6)] → W p l e rm_X4_leastLossOver s m ([.ref (ah 99), .int i1, .int i2] : List Value).toArray below meth c H locs 0 0 (MQ below (va_Qi (S := zT × zT) (fun (r : Int32) (u : zT × zT) => Q r (u.1) (u.2)) (fun u t => va_P D zCl ((fun (u : zT × zT) => ((bX4 ah an am af ai aj al ag cy S) ++ ((bX3 an cy Sn) ++ ((bX3 am cy (u.1)) ++ ((bX1 ag cy (u.2))))))) u) t.heap) A) ([.ref (ah 99), .int i1, .int i2] : List Value).toArray s 0 0 A) (F0 m 58 ls []) := by
        intro x5 x6 Sm Sg h H locs hP hD hS ls hl
        refine lv_iload hx hb dX4_leastLossOver_58 (lv_at hl 3 rfl) ?_
        refine lv_istore_n (lv' := [(3, .int x5), (0, .ref (ah 99)), (1, .int i1), (2, .int i2), (5, .int x5), (6, .int x6)]) hx hb dX4_leastLossOver_60 rfl hl (by decide) rfl (fun ls hl => ?_)
        refine lv_iload hx hb dX4_leastLossOver_61 (lv_at hl 5 rfl) ?_
        refine lv_istore (lv' := [(4, .int x6), (3, .int x5), (0, .ref (ah 99)), (1, .int i1), (2, .int i2), (5, .int x5), (6, .int x6)]) hx hb dX4_leastLossOver_63 hl (by decide) rfl (fun ls hl => ?_)
        exact L65 x5 x6 x5 Sm Sg h H locs hP hD hS ls (lv_sub hl [2, 3, 4, 1, 0, 5] rfl)
      intro x3 x4 x5 Sm Sg h H locs hP hD hS ls hl
      refine lv_iload hx hb dX4_leastLossOver_19 (lv_at hl 5 rfl) ?_
      refine lv_iload_n hx hb dX4_leastLossOver_21 rfl (lv_at hl 2 rfl) ?_
      refine lv_icmp_gt (tgt := 71) hx hb dX4_leastLossOver_22 (by decide) (fun c22 => ?_) (fun c22 => ?_)
      · replace h := And.left h c22
        refine lv_iload_n hx hb dX4_leastLossOver_71 rfl (lv_at hl 3 rfl) ?_
        exact W.iret (v := x3) hx hb hr (fun t ht hW => ⟨⟨_, (Sm, Sg), rfl, h, zP_h ht hP⟩, hS.F ht⟩) hS.2.2 dX4_leastLossOver_72
      · replace h := And.right h c22
        refine lv_aload_n hx hb dX4_leastLossOver_25 rfl (lv_at hl 0 rfl) ?_
        refine va_get (D := D) (ci := 4) (v := .ref (am 99)) (C := RX4) (T := TX4) (N := 12) hx hb htB ziX4 hown hK hP 0 rfl rfl 1 (by decide) (htB _ zm_204) (fun _ h9 => h9) rfl dX4_leastLossOver_26 ?_
        refine lv_iload_n hx hb dX4_leastLossOver_29 rfl (lv_at hl 1 rfl) ?_
        refine lv_iload hx hb dX4_leastLossOver_30 (lv_at hl 5 rfl) ?_
        have hPc : va_P D zCl (bX3 am cy Sm) H := hP.sub [7, 8, 9] rfl
        have hDc : va_D A (bX3 am cy Sm) := hD.sub [7, 8, 9] (by decide) rfl
        refine zc_i (ws' := fun u => ((bX4 ah an am af ai aj al ag cy S) ++ ((bX3 an cy Sn) ++ ((bX3 am cy u) ++ ((bX1 ag cy Sg)))))) (va_runV (As := [.int i1, .int x5]) (rest := []) ⟨hx, hb, hml, hown, htB⟩ (c_X3_change l D cy am H.size i1 x5 Sm h) (cwV 2 htB (zgV zm_159 zm_135 zm_136 zm_28 zm_134) rfl rfl rfl hd_X3_change ⟨Nat.le_of_ble_eq_true rfl, Nat.le_of_ble_eq_true rfl⟩) ⟨zM_blind, va_recv hK hP (ci := 3) (q0 := 7) rfl rfl, zM_pre hPc hK hN hDc⟩ rfl rfl hl.1 rfl (lv_room (Nat.le_of_ble_eq_true rfl)) dX4_leastLossOver_32 ⟨Nat.zero_le _, Nat.zero_le _⟩) hS hA hP hD [7, 8, 9] [0, 1, 2, 3, 4, 5, 6, 10, 11, 12, 13, 14, 15, 16, 17, 18, 19, 20] [0, 1, 2, 3, 4, 5, 6, 18, 19, 20, 7, 8, 9, 10, 11, 12, 13, 14, 15, 16, 17] (by decide) rfl (by decide) (by decide) rfl (fun u => rfl) (fun u => rfl) (fun u => rfl) (fun r32 u H locs h hP hD hS => ?_)
        obtain ⟨Sm_32, eu⟩ : ∃ z, z = u := ⟨_, rfl⟩
        subst eu
        replace hP : va_P D zCl ((bX4 ah an am af ai aj al ag cy S) ++ ((bX3 an cy Sn) ++ ((bX3 am cy Sm_32) ++ ((bX1 ag cy Sg))))) H := hP
        replace hD : va_D A ((bX4 ah an am af ai aj al ag cy S) ++ ((bX3 an cy Sn) ++ ((bX3 am cy Sm_32) ++ ((bX1 ag cy Sg))))) := hD
        refine lv_pop hx hb dX4_leastLossOver_35 rfl ?_
        refine lv_aload_n hx hb dX4_leastLossOver_36 rfl (lv_at hl 0 rfl) ?_
        refine lv_aload_n hx hb dX4_leastLossOver_37 rfl (lv_at hl 0 rfl) ?_
        refine va_get (D := D) (ci := 4) (v := .ref (am 99)) (C := RX4) (T := TX4) (N := 12) hx hb htB ziX4 hown hK hP 0 rfl rfl 1 (by decide) (htB _ zm_204) (fun _ h9 => h9) rfl dX4_leastLossOver_38 ?_
        have hPc : va_P D zCl ((bX4 ah an am af ai aj al ag cy S) ++ ((bX1 ag cy Sg) ++ ((bX3 am cy Sm_32)))) H := hP.sub [0, 1, 2, 3, 10, 11, 12, 13, 14, 15, 16, 17, 18, 19, 20, 7, 8, 9] rfl
        have hDc : va_D A ((bX4 ah an am af ai aj al ag cy S) ++ ((bX1 ag cy Sg) ++ ((bX3 am cy Sm_32)))) := hD.sub [0, 1, 2, 3, 10, 11, 12, 13, 14, 15, 16, 17, 18, 19, 20, 7, 8, 9] (by decide) rfl
        refine zc_i (ws' := fun u => ((bX4 ah an am af ai aj al ag cy S) ++ ((bX3 an cy Sn) ++ ((bX3 am cy Sm_32) ++ ((bX1 ag cy u)))))) (va_runV (As := [.ref (am 99)]) (rest := []) ⟨hx, hb, hml, hown, htB⟩ (c_X4_allLoss l D cy ah an am af ai aj al ag am H.size S Sm_32 Sg h) (cwV 1 htB (zgV zm_186 zm_188 zm_189 zm_4 zm_187) rfl rfl rfl hd_X4_allLoss ⟨Nat.le_of_ble_eq_true rfl, Nat.le_of_ble_eq_true rfl⟩) ⟨zM_blind, va_recv hK hP (ci := 4) (q0 := 0) rfl rfl, zM_pre hPc hK hN hDc⟩ rfl rfl hl.1 rfl (lv_room (Nat.le_of_ble_eq_true rfl)) dX4_leastLossOver_41 ⟨Nat.zero_le _, Nat.zero_le _⟩) hS hA hP hD [0, 1, 2, 3, 10, 11, 12, 13, 14, 15, 16, 17, 18, 19, 20, 7, 8, 9] [4, 5, 6] [3, 4, 5, 6, 0, 1, 2, 18, 19, 20, 7, 8, 9, 10, 11, 12, 13, 14, 15, 16, 17] (by decide) rfl (by decide) (by decide) rfl (fun u => rfl) (fun u => rfl) (fun u => rfl) (fun r41 u H locs h hP hD hS => ?_)
        obtain ⟨Sg_41, eu⟩ : ∃ z, z = u := ⟨_, rfl⟩
        subst eu
        replace hP : va_P D zCl ((bX4 ah an am af ai aj al ag cy S) ++ ((bX3 an cy Sn) ++ ((bX3 am cy Sm_32) ++ ((bX1 ag cy Sg_41))))) H := hP
        replace hD : va_D A ((bX4 ah an am af ai aj al ag cy S) ++ ((bX3 an cy Sn) ++ ((bX3 am cy Sm_32) ++ ((bX1 ag cy Sg_41))))) := hD
        refine lv_istore (lv' := [(6, .int r41), (0, .ref (ah 99)), (1, .int i1), (2, .int i2), (3, .int x3), (4, .int x4), (5, .int x5)]) hx hb dX4_leastLossOver_44 hl (by decide) rfl (fun ls hl => ?_)
        refine lv_iload hx hb dX4_leastLossOver_46 (lv_at hl 6 rfl) ?_
        refine lv_if_eq (tgt := 58) hx hb dX4_leastLossOver_48 (by decide) (fun c48 => ?_) (fun c48 => ?_)
        · replace h := And.left h c48
          exact L58 x5 r41 Sm_32 Sg_41 h H locs hP hD hS ls (lv_sub hl [1, 2, 3, 6, 0] rfl)
        · replace h := And.right h c48
          refine lv_iload hx hb dX4_leastLossOver_51 (lv_at hl 0 rfl) ?_
          refine lv_iload hx hb dX4_leastLossOver_53 (lv_at hl 5 rfl) ?_
          refine lv_icmp_ge (tgt := 65) hx hb dX4_leastLossOver_55 (by decide) (fun c55 => ?_) (fun c55 => ?_)
          · replace h := And.left h c55
            exact L65 x3 x4 x5 Sm_32 Sg_41 h H locs hP hD hS ls (lv_sub hl [1, 2, 3, 4, 5, 6] rfl)
          · replace h := And.right h c55
            exact L58 x5 r41 Sm_32 Sg_41 h H locs hP hD hS ls (lv_sub hl [1, 2, 3, 6, 0] rfl)
  refine lv_aload_n hx hb dX4_leastLossOver_0 rfl (lv_at hl 0 rfl) ?_
  refine va_get (D := D) (ci := 4) (v := .ref (am 99)) (C := RX4) (T := TX4) (N := 12) hx hb htB ziX4 hown hK hP 0 rfl rfl 1 (by decide) (htB _ zm_204) (fun _ h9 => h9) rfl dX4_leastLossOver_1 ?_
  refine lv_aload_n hx hb dX4_leastLossOver_4 rfl (lv_at hl 0 rfl) ?_
  refine va_get (D := D) (ci := 4) (v := .ref (an 99)) (C := RX4) (T := TX4) (N := 12) hx hb htB ziX4 hown hK hP 0 rfl rfl 0 (by decide) (htB _ zm_155) (fun _ h9 => h9) rfl dX4_leastLossOver_5 ?_
  have hPc : va_P D zCl ((bX3 am cy Sm) ++ ((bX3 an cy Sn))) H := hP.sub [7, 8, 9, 4, 5, 6] rfl
  have hDc : va_D A ((bX3 am cy Sm) ++ ((bX3 an cy Sn))) := hD.sub [7, 8, 9, 4, 5, 6] (by decide) rfl
  refine zc_v (ws' := fun u => ((bX4 ah an am af ai aj al ag cy S) ++ ((bX3 an cy Sn) ++ ((bX3 am cy u) ++ ((bX1 ag cy Sg)))))) (va_runV (As := [.ref (an 99)]) (rest := []) ⟨hx, hb, hml, hown, htB⟩ (c_X3_become l D cy am an H.size Sn Sm h) (cwV 1 htB (zgV zm_205 zm_207 zm_208 zm_28 zm_206) rfl rfl rfl hd_X3_become ⟨Nat.le_of_ble_eq_true rfl, Nat.le_of_ble_eq_true rfl⟩) ⟨zM_blind, va_recv hK hP (ci := 3) (q0 := 7) rfl rfl, zM_pre hPc hK hN hDc⟩ rfl rfl hl.1 rfl (lv_room (Nat.le_of_ble_eq_true rfl)) dX4_leastLossOver_8 ⟨Nat.zero_le _, Nat.zero_le _⟩) hS hA hP hD [7, 8, 9, 4, 5, 6] [0, 1, 2, 3, 10, 11, 12, 13, 14, 15, 16, 17, 18, 19, 20] [0, 1, 2, 3, 18, 19, 20, 15, 16, 17, 4, 5, 6, 7, 8, 9, 10, 11, 12, 13, 14] (by decide) rfl (by decide) (by decide) rfl (fun u => rfl) (fun u => rfl) (fun u => rfl) (fun u H locs h hP hD hS => ?_)
  obtain ⟨Sm_8, eu⟩ : ∃ z, z = u := ⟨_, rfl⟩
  subst eu
  replace hP : va_P D zCl ((bX4 ah an am af ai aj al ag cy S) ++ ((bX3 an cy Sn) ++ ((bX3 am cy Sm_8) ++ ((bX1 ag cy Sg))))) H := hP
  replace hD : va_D A ((bX4 ah an am af ai aj al ag cy S) ++ ((bX3 an cy Sn) ++ ((bX3 am cy Sm_8) ++ ((bX1 ag cy Sg))))) := hD
  refine lv_iconst (v := (0 : Int32)) hx hb dX4_leastLossOver_11 (by decide) ?_
  refine lv_istore_n (lv' := [(3, .int (0 : Int32)), (0, .ref (ah 99)), (1, .int i1), (2, .int i2)]) hx hb dX4_leastLossOver_12 rfl hl (by decide) rfl (fun ls hl => ?_)
  refine lv_iconst (v := (0 : Int32)) hx hb dX4_leastLossOver_13 (by decide) ?_
  refine lv_istore (lv' := [(4, .int (0 : Int32)), (3, .int (0 : Int32)), (0, .ref (ah 99)), (1, .int i1), (2, .int i2)]) hx hb dX4_leastLossOver_14 hl (by decide) rfl (fun ls hl => ?_)
  refine lv_iconst (v := (0 : Int32)) hx hb dX4_leastLossOver_16 (by decide) ?_
  refine lv_istore (lv' := [(5, .int (0 : Int32)), (4, .int (0 : Int32)), (3, .int (0 : Int32)), (0, .ref (ah 99)), (1, .int i1), (2, .int i2)]) hx hb dX4_leastLossOver_17 hl (by decide) rfl (fun ls hl => ?_)
  obtain ⟨nn, h⟩ := h
  exact L19 nn (0 : Int32) (0 : Int32) (0 : Int32) Sm_8 Sg h H locs hP hD hS ls (lv_sub hl [3, 4, 5, 2, 1, 0] rfl)
set_option maxHeartbeats 4000000 in
set_option maxRecDepth 100000 in
theorem c_X4_bestFar (l : Launch) (D : va_G) (cy : ClassId) (ah : Nat → Nat) (an : Nat → Nat) (am : Nat → Nat) (af : Nat → Nat) (ai : Nat → Nat) (aj : Nat → Nat) (al : Nat → Nat) (ag : Nat → Nat) (sz : Nat) (S : zT) (Sn : zT) (Sm : zT) (Sg : zT) {Q : Int32 → zT → zT → Prop} (h : wp_X4_bestFar S Sn Sm Sg Q) : Met l yX4_bestFar w_X4_bestFar rm_X4_bestFar (va_Pc [.ref (ah 99)] (zM D cy ((bX4 ah an am af ai aj al ag cy S) ++ ((bX3 an cy Sn) ++ ((bX3 am cy Sm) ++ ((bX1 ag cy Sg))))) sz)) (va_Qi (S := zT × zT) (fun (r : Int32) (u : zT × zT) => Q r (u.1) (u.2)) (fun u t => va_P D zCl ((fun (u : zT × zT) => ((bX4 ah an am af ai aj al ag cy S) ++ ((bX3 an cy Sn) ++ ((bX3 am cy (u.1)) ++ ((bX1 ag cy (u.2))))))) u) t.heap) (va_A ((bX4 ah an am af ai aj al ag cy S) ++ ((bX3 an cy Sn) ++ ((bX3 am cy Sm) ++ ((bX1 ag cy Sg))))) sz)) 0 0 (va_A ((bX4 ah an am af ai aj al ag cy S) ++ ((bX3 an cy Sn) ++ ((bX3 am cy Sm) ++ ((bX1 ag cy Sg))))) sz) := by
  refine zOf_i (by decide) (Nat.le_of_ble_eq_true rfl) ?_
  intro p e s m below meth c ls A H locs hx hb hr hml hown htB hlocks hK hN hP hD hS hA hl
  replace hl : lv_has ls 1 [(0, .ref (ah 99))] := hl
  refine lv_aload_n hx hb dX4_bestFar_0 rfl (lv_at hl 0 rfl) ?_
  refine lv_iconst (v := (3 : Int32)) hx hb dX4_bestFar_1 (by decide) ?_
  refine lv_bipush (v := (40 : Int32)) hx hb dX4_bestFar_2 (by decide) ?_
  refine zc_if (ws' := fun u => ((bX4 ah an am af ai aj al ag cy S) ++ ((bX3 an cy Sn) ++ ((bX3 am cy (u.1)) ++ ((bX1 ag cy (u.2))))))) (va_runV (As := [.int (3 : Int32), .int (40 : Int32)]) (rest := []) ⟨hx, hb, hml, hown, htB⟩ (c_X4_leastLossOver l D cy ah an am af ai aj al ag H.size S Sn (3 : Int32) (40 : Int32) Sm Sg h) (cwV 2 htB (zgV zm_209 zm_211 zm_212 zm_4 zm_210) rfl rfl rfl hd_X4_leastLossOver ⟨Nat.le_of_ble_eq_true rfl, Nat.le_of_ble_eq_true rfl⟩) ⟨zM_blind, va_recv hK hP (ci := 4) (q0 := 0) rfl rfl, zM_pre hP hK hN hD⟩ rfl rfl hl.1 rfl (lv_room (Nat.le_of_ble_eq_true rfl)) dX4_bestFar_4 ⟨Nat.zero_le _, Nat.zero_le _⟩) hS hA hP hD (fun u => rfl) (fun u => rfl) (fun r4 u H locs h hP hD hS => ?_)
  obtain ⟨Sm_4, Sg_4⟩ := u
  replace hP : va_P D zCl ((bX4 ah an am af ai aj al ag cy S) ++ ((bX3 an cy Sn) ++ ((bX3 am cy Sm_4) ++ ((bX1 ag cy Sg_4))))) H := hP
  replace hD : va_D A ((bX4 ah an am af ai aj al ag cy S) ++ ((bX3 an cy Sn) ++ ((bX3 am cy Sm_4) ++ ((bX1 ag cy Sg_4))))) := hD
  exact W.iret (v := r4) hx hb hr (fun t ht hW => ⟨⟨_, (Sm_4, Sg_4), rfl, h, zP_h ht hP⟩, hS.F ht⟩) hS.2.2 dX4_bestFar_7
set_option maxHeartbeats 4000000 in
set_option maxRecDepth 100000 in
theorem c_X4_bestCustom (l : Launch) (D : va_G) (cy : ClassId) (ah : Nat → Nat) (an : Nat → Nat) (am : Nat → Nat) (af : Nat → Nat) (ai : Nat → Nat) (aj : Nat → Nat) (al : Nat → Nat) (ag : Nat → Nat) (sz : Nat) (S : zT) (Sn : zT) (Sm : zT) (Sg : zT) {Q : Int32 → zT → zT → Prop} (h : wp_X4_bestCustom S Sn Sm Sg Q) : Met l yX4_bestCustom w_X4_bestCustom rm_X4_bestCustom (va_Pc [.ref (ah 99)] (zM D cy ((bX4 ah an am af ai aj al ag cy S) ++ ((bX3 an cy Sn) ++ ((bX3 am cy Sm) ++ ((bX1 ag cy Sg))))) sz)) (va_Qi (S := zT × zT) (fun (r : Int32) (u : zT × zT) => Q r (u.1) (u.2)) (fun u t => va_P D zCl ((fun (u : zT × zT) => ((bX4 ah an am af ai aj al ag cy S) ++ ((bX3 an cy Sn) ++ ((bX3 am cy (u.1)) ++ ((bX1 ag cy (u.2))))))) u) t.heap) (va_A ((bX4 ah an am af ai aj al ag cy S) ++ ((bX3 an cy Sn) ++ ((bX3 am cy Sm) ++ ((bX1 ag cy Sg))))) sz)) 0 0 (va_A ((bX4 ah an am af ai aj al ag cy S) ++ ((bX3 an cy Sn) ++ ((bX3 am cy Sm) ++ ((bX1 ag cy Sg))))) sz) := by
  refine zOf_i (by decide) (Nat.le_of_ble_eq_true rfl) ?_
  intro p e s m below meth c ls A H locs hx hb hr hml hown htB hlocks hK hN hP hD hS hA hl
  replace hl : lv_has ls 1 [(0, .ref (ah 99))] := hl
  refine lv_aload_n hx hb dX4_bestCustom_0 rfl (lv_at hl 0 rfl) ?_
  refine lv_iconst (v := (4 : Int32)) hx hb dX4_bestCustom_1 (by decide) ?_
  refine lv_bipush (v := (6 : Int32)) hx hb dX4_bestCustom_2 (by decide) ?_
  refine zc_if (ws' := fun u => ((bX4 ah an am af ai aj al ag cy S) ++ ((bX3 an cy Sn) ++ ((bX3 am cy (u.1)) ++ ((bX1 ag cy (u.2))))))) (va_runV (As := [.int (4 : Int32), .int (6 : Int32)]) (rest := []) ⟨hx, hb, hml, hown, htB⟩ (c_X4_leastLossOver l D cy ah an am af ai aj al ag H.size S Sn (4 : Int32) (6 : Int32) Sm Sg h) (cwV 2 htB (zgV zm_209 zm_211 zm_212 zm_4 zm_210) rfl rfl rfl hd_X4_leastLossOver ⟨Nat.le_of_ble_eq_true rfl, Nat.le_of_ble_eq_true rfl⟩) ⟨zM_blind, va_recv hK hP (ci := 4) (q0 := 0) rfl rfl, zM_pre hP hK hN hD⟩ rfl rfl hl.1 rfl (lv_room (Nat.le_of_ble_eq_true rfl)) dX4_bestCustom_4 ⟨Nat.zero_le _, Nat.zero_le _⟩) hS hA hP hD (fun u => rfl) (fun u => rfl) (fun r4 u H locs h hP hD hS => ?_)
  obtain ⟨Sm_4, Sg_4⟩ := u
  replace hP : va_P D zCl ((bX4 ah an am af ai aj al ag cy S) ++ ((bX3 an cy Sn) ++ ((bX3 am cy Sm_4) ++ ((bX1 ag cy Sg_4))))) H := hP
  replace hD : va_D A ((bX4 ah an am af ai aj al ag cy S) ++ ((bX3 an cy Sn) ++ ((bX3 am cy Sm_4) ++ ((bX1 ag cy Sg_4))))) := hD
  exact W.iret (v := r4) hx hb hr (fun t ht hW => ⟨⟨_, (Sm_4, Sg_4), rfl, h, zP_h ht hP⟩, hS.F ht⟩) hS.2.2 dX4_bestCustom_7
set_option maxHeartbeats 4000000 in
set_option maxRecDepth 100000 in
theorem c_X4_bestShuts (l : Launch) (D : va_G) (cy : ClassId) (ah : Nat → Nat) (an : Nat → Nat) (am : Nat → Nat) (af : Nat → Nat) (ai : Nat → Nat) (aj : Nat → Nat) (al : Nat → Nat) (ag : Nat → Nat) (sz : Nat) (S : zT) (Sn : zT) (Sm : zT) (Sg : zT) {Q : Int32 → zT → zT → Prop} (h : wp_X4_bestShuts S Sn Sm Sg Q) : Met l yX4_bestShuts w_X4_bestShuts rm_X4_bestShuts (va_Pc [.ref (ah 99)] (zM D cy ((bX4 ah an am af ai aj al ag cy S) ++ ((bX3 an cy Sn) ++ ((bX3 am cy Sm) ++ ((bX1 ag cy Sg))))) sz)) (va_Qi (S := zT × zT) (fun (r : Int32) (u : zT × zT) => Q r (u.1) (u.2)) (fun u t => va_P D zCl ((fun (u : zT × zT) => ((bX4 ah an am af ai aj al ag cy S) ++ ((bX3 an cy Sn) ++ ((bX3 am cy (u.1)) ++ ((bX1 ag cy (u.2))))))) u) t.heap) (va_A ((bX4 ah an am af ai aj al ag cy S) ++ ((bX3 an cy Sn) ++ ((bX3 am cy Sm) ++ ((bX1 ag cy Sg))))) sz)) 0 0 (va_A ((bX4 ah an am af ai aj al ag cy S) ++ ((bX3 an cy Sn) ++ ((bX3 am cy Sm) ++ ((bX1 ag cy Sg))))) sz) := by
  refine zOf_i (by decide) (Nat.le_of_ble_eq_true rfl) ?_
  intro p e s m below meth c ls A H locs hx hb hr hml hown htB hlocks hK hN hP hD hS hA hl
  replace hl : lv_has ls 5 [(0, .ref (ah 99))] := hl
  have L17 : ∀ (k17 : Nat) (x1 : Int32) (x2 : Int32) (x3 : Int32) (Sm : zT) (Sg : zT), wpl_X4_bestShuts_17 S Sn Q k17 x1 x2 x3 Sm Sg → ∀ (H : Heap) (locs : List Loc), va_P D zCl ((bX4 ah an am af ai aj al ag cy S) ++ ((bX3 an cy Sn) ++ ((bX3 am cy Sm) ++ ((bX1 ag cy Sg))))) H → va_D A ((bX4 ah an am af ai aj al ag cy S) ++ ((bX3 an cy Sn) ++ ((bX3 am cy Sm) ++ ((bX1 ag cy Sg))))) → va_S A s.heap H locs → ∀ ls : Array Slot, lv_has ls 5 [(0, .ref (ah 99)), (1, .int x1), (2, .int x2), (3, .int x3)] → W p l e rm_X4_bestShuts s m ([.ref (ah 99)] : List Value).toArray below meth c H locs 0 0 (MQ below (va_Qi (S := zT × zT) (fun (r : Int32) (u : zT × zT) => Q r (u.1) (u.2)) (fun u t => va_P D zCl ((fun (u : zT × zT) => ((bX4 ah an am af ai aj al ag cy S) ++ ((bX3 an cy Sn) ++ ((bX3 am cy (u.1)) ++ ((bX1 ag cy (u.2))))))) u) t.heap) A) ([.ref (ah 99)] : List Value).toArray s 0 0 A) (F0 m 17 ls []) := by
    intro k17
    induction k17 with
    | zero => exact fun x1 x2 x3 Sm Sg h => False.elim h
    | succ k17 ih17 =>
      have L77 : ∀ (x1 : Int32) (x2 : Int32) (x3 : Int32) (Sm : zT) (Sg : zT), wpb_X4_bestShuts_77 S Sn Q (wpl_X4_bestShuts_17 S Sn Q k17) x1 x2 x3 Sm Sg → ∀ (H : Heap) (locs : List Loc), va_P D zCl ((bX4 ah an am af ai aj al ag cy S) ++ ((bX3 an cy Sn) ++ ((bX3 am cy Sm) ++ ((bX1 ag cy Sg))))) H → va_D A ((bX4 ah an am af ai aj al ag cy S) ++ ((bX3 an cy Sn) ++ ((bX3 am cy Sm) ++ ((bX1 ag cy Sg))))) → va_S A s.heap H locs → ∀ ls : Array Slot, lv_has ls 5 [(0, .ref (ah 99)), (1, .int x1), (2, .int x2), (3, .int x3)] → W p l e rm_X4_bestShuts s m ([.ref (ah 99)] : List Value).toArray below meth c H locs 0 0 (MQ below (va_Qi (S := zT × zT) (fun (r : Int32) (u : zT × zT) => Q r (u.1) (u.2)) (fun u t => va_P D zCl ((fun (u : zT × zT) => ((bX4 ah an am af ai aj al ag cy S) ++ ((bX3 an cy Sn) ++ ((bX3 am cy (u.1)) ++ ((bX1 ag cy (u.2))))))) u) t.heap) A) ([.ref (ah 99)] : List Value).toArray s 0 0 A) (F0 m 77 ls []) := by
        intro x1 x2 x3 Sm Sg h H locs hP hD hS ls hl
        obtain ⟨y77, ey77⟩ : ∃ z : Int32, z = (x3 + (1 : Int32)) := ⟨_, rfl⟩
        replace h := h y77 ey77
        refine lv_iinc (v := y77) (lv' := [(3, .int y77), (0, .ref (ah 99)), (1, .int x1), (2, .int x2)]) hx hb dX4_bestShuts_77 hl (k := 3) rfl (by rw [ey77]; rfl) (by decide) rfl (fun ls hl => ?_)
        refine lv_goto (tgt := 17) hx hb dX4_bestShuts_80 (by decide) ?_
        exact ih17 x1 x2 y77 Sm Sg h H locs hP hD hS ls (lv_sub hl [1, 2, 3, 0] rfl)
      have L72 : ∀ (x3 : Int32) (x4 : Int32) (Sm : zT) (Sg : zT), wpb_X4_bestShuts_72 S Sn Q (wpl_X4_bestShuts_17 S Sn Q k17) x3 x4 Sm Sg → ∀ (H : Heap) (locs : List Loc), va_P D zCl ((bX4 ah an am af ai aj al ag cy S) ++ ((bX3 an cy Sn) ++ ((bX3 am cy Sm) ++ ((bX1 ag cy Sg))))) H → va_D A ((bX4 ah an am af ai aj al ag cy S) ++ ((bX3 an cy Sn) ++ ((bX3 am cy Sm) ++ ((bX1 ag cy Sg))))) → va_S A s.heap H locs → ∀ ls : Array Slot, lv_has ls 5 [(0, .ref (ah 99)), (3, .int x3), (4, .int x4)] → W p l e rm_X4_bestShuts s m ([.ref (ah 99)] : List Value).toArray below meth c H locs 0 0 (MQ below (va_Qi (S := zT × zT) (fun (r : Int32) (u : zT × zT) => Q r (u.1) (u.2)) (fun u t => va_P D zCl ((fun (u : zT × zT) => ((bX4 ah an am af ai aj al ag cy S) ++ ((bX3 an cy Sn) ++ ((bX3 am cy (u.1)) ++ ((bX1 ag cy (u.2))))))) u) t.heap) A) ([.ref (ah 99)] : List Value).toArray s 0 0 A) (F0 m 72 ls []) := by
        intro x3 x4 Sm Sg h H locs hP hD hS ls hl
        refine lv_iload_n hx hb dX4_bestShuts_72 rfl (lv_at hl 1 rfl) ?_
        refine lv_istore_n (lv' := [(1, .int x3), (0, .ref (ah 99)), (3, .int x3), (4, .int x4)]) hx hb dX4_bestShuts_73 rfl hl (by decide) rfl (fun ls hl => ?_)
        refine lv_iload hx hb dX4_bestShuts_74 (lv_at hl 3 rfl) ?_
        refine lv_istore_n (lv' := [(2, .int x4), (1, .int x3), (0, .ref (ah 99)), (3, .int x3), (4, .int x4)]) hx hb dX4_bestShuts_76 rfl hl (by decide) rfl (fun ls hl => ?_)
        exact L77 x3 x4 x3 Sm Sg h H locs hP hD hS ls (lv_sub hl [2, 1, 0, 3] rfl)
      intro x1 x2 x3 Sm Sg h H locs hP hD hS ls hl
      refine lv_iload_n hx hb dX4_bestShuts_17 rfl (lv_at hl 3 rfl) ?_
      refine lv_bipush (v := (9 : Int32)) hx hb dX4_bestShuts_18 (by decide) ?_
      refine lv_icmp_gt (tgt := 83) hx hb dX4_bestShuts_20 (by decide) (fun c20 => ?_) (fun c20 => ?_)
      · replace h := And.left h c20
        refine lv_iload_n hx hb dX4_bestShuts_83 rfl (lv_at hl 1 rfl) ?_
        exact W.iret (v := x1) hx hb hr (fun t ht hW => ⟨⟨_, (Sm, Sg), rfl, h, zP_h ht hP⟩, hS.F ht⟩) hS.2.2 dX4_bestShuts_84
      · replace h := And.right h c20
        refine lv_aload_n hx hb dX4_bestShuts_23 rfl (lv_at hl 0 rfl) ?_
        refine va_get (D := D) (ci := 4) (v := .ref (am 99)) (C := RX4) (T := TX4) (N := 12) hx hb htB ziX4 hown hK hP 0 rfl rfl 1 (by decide) (htB _ zm_204) (fun _ h9 => h9) rfl dX4_bestShuts_24 ?_
        refine lv_iconst (v := (0 : Int32)) hx hb dX4_bestShuts_27 (by decide) ?_
        refine lv_iload_n hx hb dX4_bestShuts_28 rfl (lv_at hl 3 rfl) ?_
        have hPc : va_P D zCl (bX3 am cy Sm) H := hP.sub [7, 8, 9] rfl
        have hDc : va_D A (bX3 am cy Sm) := hD.sub [7, 8, 9] (by decide) rfl
        refine zc_i (ws' := fun u => ((bX4 ah an am af ai aj al ag cy S) ++ ((bX3 an cy Sn) ++ ((bX3 am cy u) ++ ((bX1 ag cy Sg)))))) (va_runV (As := [.int (0 : Int32), .int x3]) (rest := []) ⟨hx, hb, hml, hown, htB⟩ (c_X3_change l D cy am H.size (0 : Int32) x3 Sm h) (cwV 2 htB (zgV zm_159 zm_135 zm_136 zm_28 zm_134) rfl rfl rfl hd_X3_change ⟨Nat.le_of_ble_eq_true rfl, Nat.le_of_ble_eq_true rfl⟩) ⟨zM_blind, va_recv hK hP (ci := 3) (q0 := 7) rfl rfl, zM_pre hPc hK hN hDc⟩ rfl rfl hl.1 rfl (lv_room (Nat.le_of_ble_eq_true rfl)) dX4_bestShuts_29 ⟨Nat.zero_le _, Nat.zero_le _⟩) hS hA hP hD [7, 8, 9] [0, 1, 2, 3, 4, 5, 6, 10, 11, 12, 13, 14, 15, 16, 17, 18, 19, 20] [0, 1, 2, 3, 4, 5, 6, 18, 19, 20, 7, 8, 9, 10, 11, 12, 13, 14, 15, 16, 17] (by decide) rfl (by decide) (by decide) rfl (fun u => rfl) (fun u => rfl) (fun u => rfl) (fun r29 u H locs h hP hD hS => ?_)
        obtain ⟨Sm_29, eu⟩ : ∃ z, z = u := ⟨_, rfl⟩
        subst eu
        replace hP : va_P D zCl ((bX4 ah an am af ai aj al ag cy S) ++ ((bX3 an cy Sn) ++ ((bX3 am cy Sm_29) ++ ((bX1 ag cy Sg))))) H := hP
        replace hD : va_D A ((bX4 ah an am af ai aj al ag cy S) ++ ((bX3 an cy Sn) ++ ((bX3 am cy Sm_29) ++ ((bX1 ag cy Sg))))) := hD
        refine lv_pop hx hb dX4_bestShuts_32 rfl ?_
        refine lv_aload_n hx hb dX4_bestShuts_33 rfl (lv_at hl 0 rfl) ?_
        refine lv_aload_n hx hb dX4_bestShuts_34 rfl (lv_at hl 0 rfl) ?_
        refine va_get (D := D) (ci := 4) (v := .ref (am 99)) (C := RX4) (T := TX4) (N := 12) hx hb htB ziX4 hown hK hP 0 rfl rfl 1 (by decide) (htB _ zm_204) (fun _ h9 => h9) rfl dX4_bestShuts_35 ?_
        have hPc : va_P D zCl ((bX4 ah an am af ai aj al ag cy S) ++ ((bX1 ag cy Sg) ++ ((bX3 am cy Sm_29)))) H := hP.sub [0, 1, 2, 3, 10, 11, 12, 13, 14, 15, 16, 17, 18, 19, 20, 7, 8, 9] rfl
        have hDc : va_D A ((bX4 ah an am af ai aj al ag cy S) ++ ((bX1 ag cy Sg) ++ ((bX3 am cy Sm_29)))) := hD.sub [0, 1, 2, 3, 10, 11, 12, 13, 14, 15, 16, 17, 18, 19, 20, 7, 8, 9] (by decide) rfl
        refine zc_i (ws' := fun u => ((bX4 ah an am af ai aj al ag cy S) ++ ((bX3 an cy Sn) ++ ((bX3 am cy Sm_29) ++ ((bX1 ag cy u)))))) (va_runV (As := [.ref (am 99)]) (rest := []) ⟨hx, hb, hml, hown, htB⟩ (c_X4_allLoss l D cy ah an am af ai aj al ag am H.size S Sm_29 Sg h) (cwV 1 htB (zgV zm_186 zm_188 zm_189 zm_4 zm_187) rfl rfl rfl hd_X4_allLoss ⟨Nat.le_of_ble_eq_true rfl, Nat.le_of_ble_eq_true rfl⟩) ⟨zM_blind, va_recv hK hP (ci := 4) (q0 := 0) rfl rfl, zM_pre hPc hK hN hDc⟩ rfl rfl hl.1 rfl (lv_room (Nat.le_of_ble_eq_true rfl)) dX4_bestShuts_38 ⟨Nat.zero_le _, Nat.zero_le _⟩) hS hA hP hD [0, 1, 2, 3, 10, 11, 12, 13, 14, 15, 16, 17, 18, 19, 20, 7, 8, 9] [4, 5, 6] [3, 4, 5, 6, 0, 1, 2, 18, 19, 20, 7, 8, 9, 10, 11, 12, 13, 14, 15, 16, 17] (by decide) rfl (by decide) (by decide) rfl (fun u => rfl) (fun u => rfl) (fun u => rfl) (fun r38 u H locs h hP hD hS => ?_)
        obtain ⟨Sg_38, eu⟩ : ∃ z, z = u := ⟨_, rfl⟩
        subst eu
        replace hP : va_P D zCl ((bX4 ah an am af ai aj al ag cy S) ++ ((bX3 an cy Sn) ++ ((bX3 am cy Sm_29) ++ ((bX1 ag cy Sg_38))))) H := hP
        replace hD : va_D A ((bX4 ah an am af ai aj al ag cy S) ++ ((bX3 an cy Sn) ++ ((bX3 am cy Sm_29) ++ ((bX1 ag cy Sg_38))))) := hD
        refine lv_aload_n hx hb dX4_bestShuts_41 rfl (lv_at hl 0 rfl) ?_
        refine va_get (D := D) (ci := 4) (v := .ref (ag 99)) (C := RX4) (T := TX4) (N := 12) hx hb htB ziX4 hown hK hP 0 rfl rfl 7 (by decide) (htB _ zm_165) (fun _ h9 => h9) rfl dX4_bestShuts_42 ?_
        refine lv_iload_n hx hb dX4_bestShuts_45 rfl (lv_at hl 3 rfl) ?_
        have hPc : va_P D zCl (bX1 ag cy Sg_38) H := hP.sub [10, 11, 12, 13, 14, 15, 16, 17, 18, 19, 20] rfl
        refine zc_r (va_runV (As := [.int x3]) (rest := [.int r38]) ⟨hx, hb, hml, hown, htB⟩ (c_X1_openSeconds l D cy ag Sg_38 x3 h) (cwV 1 htB (zgV zm_200 zm_202 zm_203 zm_57 zm_201) rfl rfl rfl hd_X1_openSeconds ⟨Nat.le_of_ble_eq_true rfl, Nat.le_of_ble_eq_true rfl⟩) ⟨zR_blind, va_recv hK hP (ci := 1) (q0 := 10) rfl rfl, zR_pre hPc hK hN⟩ rfl rfl hl.1 rfl (lv_room (Nat.le_of_ble_eq_true rfl)) dX4_bestShuts_46 ⟨Nat.zero_le _, Nat.zero_le _⟩) (fun r46 h => ?_)
        refine lv_aload_n hx hb dX4_bestShuts_49 rfl (lv_at hl 0 rfl) ?_
        refine va_get (D := D) (ci := 4) (v := .ref (am 99)) (C := RX4) (T := TX4) (N := 12) hx hb htB ziX4 hown hK hP 0 rfl rfl 1 (by decide) (htB _ zm_204) (fun _ h9 => h9) rfl dX4_bestShuts_50 ?_
        refine lv_iconst (v := (2 : Int32)) hx hb dX4_bestShuts_53 (by decide) ?_
        have hPc : va_P D zCl (bX3 am cy Sm_29) H := hP.sub [7, 8, 9] rfl
        refine zc_r (va_runV (As := [.int (2 : Int32)]) (rest := [.int r46, .int r38]) ⟨hx, hb, hml, hown, htB⟩ (c_X3_door l D cy am Sm_29 (2 : Int32) h) (cwV 1 htB (zgV zm_199 zm_29 zm_30 zm_28 zm_27) rfl rfl rfl hd_X3_door ⟨Nat.le_of_ble_eq_true rfl, Nat.le_of_ble_eq_true rfl⟩) ⟨zR_blind, va_recv hK hP (ci := 3) (q0 := 7) rfl rfl, zR_pre hPc hK hN⟩ rfl rfl hl.1 rfl (lv_room (Nat.le_of_ble_eq_true rfl)) dX4_bestShuts_54 ⟨Nat.zero_le _, Nat.zero_le _⟩) (fun r54 h => ?_)
        refine lv_imul hx hb dX4_bestShuts_57 ?_
        refine lv_iadd hx hb dX4_bestShuts_58 ?_
        refine lv_topi (fun y59 ey59 => ?_)
        replace h := h y59 ey59
        refine lv_istore (lv' := [(4, .int y59), (0, .ref (ah 99)), (1, .int x1), (2, .int x2), (3, .int x3)]) hx hb dX4_bestShuts_59 hl (by decide) rfl (fun ls hl => ?_)
        refine lv_iload_n hx hb dX4_bestShuts_61 rfl (lv_at hl 4 rfl) ?_
        refine lv_iconst (v := (1 : Int32)) hx hb dX4_bestShuts_62 (by decide) ?_
        refine lv_icmp_eq (tgt := 72) hx hb dX4_bestShuts_63 (by decide) (fun c63 => ?_) (fun c63 => ?_)
        · replace h := And.left h c63
          exact L72 x3 y59 Sm_29 Sg_38 h H locs hP hD hS ls (lv_sub hl [1, 4, 0] rfl)
        · replace h := And.right h c63
          refine lv_iload hx hb dX4_bestShuts_66 (lv_at hl 0 rfl) ?_
          refine lv_iload_n hx hb dX4_bestShuts_68 rfl (lv_at hl 3 rfl) ?_
          refine lv_icmp_ge (tgt := 77) hx hb dX4_bestShuts_69 (by decide) (fun c69 => ?_) (fun c69 => ?_)
          · replace h := And.left h c69
            exact L77 x1 x2 x3 Sm_29 Sg_38 h H locs hP hD hS ls (lv_sub hl [1, 2, 3, 4] rfl)
          · replace h := And.right h c69
            exact L72 x3 y59 Sm_29 Sg_38 h H locs hP hD hS ls (lv_sub hl [1, 4, 0] rfl)
  refine lv_aload_n hx hb dX4_bestShuts_0 rfl (lv_at hl 0 rfl) ?_
  refine va_get (D := D) (ci := 4) (v := .ref (am 99)) (C := RX4) (T := TX4) (N := 12) hx hb htB ziX4 hown hK hP 0 rfl rfl 1 (by decide) (htB _ zm_204) (fun _ h9 => h9) rfl dX4_bestShuts_1 ?_
  refine lv_aload_n hx hb dX4_bestShuts_4 rfl (lv_at hl 0 rfl) ?_
  refine va_get (D := D) (ci := 4) (v := .ref (an 99)) (C := RX4) (T := TX4) (N := 12) hx hb htB ziX4 hown hK hP 0 rfl rfl 0 (by decide) (htB _ zm_155) (fun _ h9 => h9) rfl dX4_bestShuts_5 ?_
  have hPc : va_P D zCl ((bX3 am cy Sm) ++ ((bX3 an cy Sn))) H := hP.sub [7, 8, 9, 4, 5, 6] rfl
  have hDc : va_D A ((bX3 am cy Sm) ++ ((bX3 an cy Sn))) := hD.sub [7, 8, 9, 4, 5, 6] (by decide) rfl
  refine zc_v (ws' := fun u => ((bX4 ah an am af ai aj al ag cy S) ++ ((bX3 an cy Sn) ++ ((bX3 am cy u) ++ ((bX1 ag cy Sg)))))) (va_runV (As := [.ref (an 99)]) (rest := []) ⟨hx, hb, hml, hown, htB⟩ (c_X3_become l D cy am an H.size Sn Sm h) (cwV 1 htB (zgV zm_205 zm_207 zm_208 zm_28 zm_206) rfl rfl rfl hd_X3_become ⟨Nat.le_of_ble_eq_true rfl, Nat.le_of_ble_eq_true rfl⟩) ⟨zM_blind, va_recv hK hP (ci := 3) (q0 := 7) rfl rfl, zM_pre hPc hK hN hDc⟩ rfl rfl hl.1 rfl (lv_room (Nat.le_of_ble_eq_true rfl)) dX4_bestShuts_8 ⟨Nat.zero_le _, Nat.zero_le _⟩) hS hA hP hD [7, 8, 9, 4, 5, 6] [0, 1, 2, 3, 10, 11, 12, 13, 14, 15, 16, 17, 18, 19, 20] [0, 1, 2, 3, 18, 19, 20, 15, 16, 17, 4, 5, 6, 7, 8, 9, 10, 11, 12, 13, 14] (by decide) rfl (by decide) (by decide) rfl (fun u => rfl) (fun u => rfl) (fun u => rfl) (fun u H locs h hP hD hS => ?_)
  obtain ⟨Sm_8, eu⟩ : ∃ z, z = u := ⟨_, rfl⟩
  subst eu
  replace hP : va_P D zCl ((bX4 ah an am af ai aj al ag cy S) ++ ((bX3 an cy Sn) ++ ((bX3 am cy Sm_8) ++ ((bX1 ag cy Sg))))) H := hP
  replace hD : va_D A ((bX4 ah an am af ai aj al ag cy S) ++ ((bX3 an cy Sn) ++ ((bX3 am cy Sm_8) ++ ((bX1 ag cy Sg))))) := hD
  refine lv_iconst (v := (1 : Int32)) hx hb dX4_bestShuts_11 (by decide) ?_
  refine lv_istore_n (lv' := [(1, .int (1 : Int32)), (0, .ref (ah 99))]) hx hb dX4_bestShuts_12 rfl hl (by decide) rfl (fun ls hl => ?_)
  refine lv_iconst (v := (0 : Int32)) hx hb dX4_bestShuts_13 (by decide) ?_
  refine lv_istore_n (lv' := [(2, .int (0 : Int32)), (1, .int (1 : Int32)), (0, .ref (ah 99))]) hx hb dX4_bestShuts_14 rfl hl (by decide) rfl (fun ls hl => ?_)
  refine lv_iconst (v := (1 : Int32)) hx hb dX4_bestShuts_15 (by decide) ?_
  refine lv_istore_n (lv' := [(3, .int (1 : Int32)), (2, .int (0 : Int32)), (1, .int (1 : Int32)), (0, .ref (ah 99))]) hx hb dX4_bestShuts_16 rfl hl (by decide) rfl (fun ls hl => ?_)
  obtain ⟨nn, h⟩ := h
  exact L17 nn (1 : Int32) (0 : Int32) (1 : Int32) Sm_8 Sg h H locs hP hD hS ls (lv_sub hl [3, 2, 1, 0] rfl)
set_option maxHeartbeats 4000000 in
set_option maxRecDepth 100000 in
theorem c_X4_runByNever (l : Launch) (D : va_G) (cy : ClassId) (ah : Nat → Nat) (an : Nat → Nat) (am : Nat → Nat) (af : Nat → Nat) (ai : Nat → Nat) (aj : Nat → Nat) (al : Nat → Nat) (ag : Nat → Nat) (sz : Nat) (S : zT) (Sn : zT) (Sm : zT) (Sg : zT) {Q : zT → zT → Prop} (h : wp_X4_runByNever S Sn Sm Sg Q) : Met l yX4_runByNever w_X4_runByNever rm_X4_runByNever (va_Pc [.ref (ah 99)] (zM D cy ((bX4 ah an am af ai aj al ag cy S) ++ ((bX3 an cy Sn) ++ ((bX3 am cy Sm) ++ ((bX1 ag cy Sg))))) sz)) (va_Qv (S := zT × zT) (fun (u : zT × zT) => Q (u.1) (u.2)) (fun u t => va_P D zCl ((fun (u : zT × zT) => ((bX4 ah an am af ai aj al ag cy S) ++ ((bX3 an cy Sn) ++ ((bX3 am cy (u.1)) ++ ((bX1 ag cy (u.2))))))) u) t.heap) (va_A ((bX4 ah an am af ai aj al ag cy S) ++ ((bX3 an cy Sn) ++ ((bX3 am cy Sm) ++ ((bX1 ag cy Sg))))) sz)) 0 0 (va_A ((bX4 ah an am af ai aj al ag cy S) ++ ((bX3 an cy Sn) ++ ((bX3 am cy Sm) ++ ((bX1 ag cy Sg))))) sz) := by
  refine zOf_v (by decide) (Nat.le_of_ble_eq_true rfl) ?_
  intro p e s m below meth c ls A H locs hx hb hr hml hown htB hlocks hK hN hP hD hS hA hl
  replace hl : lv_has ls 1 [(0, .ref (ah 99))] := hl
  refine lv_aload_n hx hb dX4_runByNever_0 rfl (lv_at hl 0 rfl) ?_
  refine va_get (D := D) (ci := 4) (v := .ref (am 99)) (C := RX4) (T := TX4) (N := 12) hx hb htB ziX4 hown hK hP 0 rfl rfl 1 (by decide) (htB _ zm_204) (fun _ h9 => h9) rfl dX4_runByNever_1 ?_
  refine lv_aload_n hx hb dX4_runByNever_4 rfl (lv_at hl 0 rfl) ?_
  refine va_get (D := D) (ci := 4) (v := .ref (an 99)) (C := RX4) (T := TX4) (N := 12) hx hb htB ziX4 hown hK hP 0 rfl rfl 0 (by decide) (htB _ zm_155) (fun _ h9 => h9) rfl dX4_runByNever_5 ?_
  have hPc : va_P D zCl ((bX3 am cy Sm) ++ ((bX3 an cy Sn))) H := hP.sub [7, 8, 9, 4, 5, 6] rfl
  have hDc : va_D A ((bX3 am cy Sm) ++ ((bX3 an cy Sn))) := hD.sub [7, 8, 9, 4, 5, 6] (by decide) rfl
  refine zc_v (ws' := fun u => ((bX4 ah an am af ai aj al ag cy S) ++ ((bX3 an cy Sn) ++ ((bX3 am cy u) ++ ((bX1 ag cy Sg)))))) (va_runV (As := [.ref (an 99)]) (rest := []) ⟨hx, hb, hml, hown, htB⟩ (c_X3_become l D cy am an H.size Sn Sm h) (cwV 1 htB (zgV zm_205 zm_207 zm_208 zm_28 zm_206) rfl rfl rfl hd_X3_become ⟨Nat.le_of_ble_eq_true rfl, Nat.le_of_ble_eq_true rfl⟩) ⟨zM_blind, va_recv hK hP (ci := 3) (q0 := 7) rfl rfl, zM_pre hPc hK hN hDc⟩ rfl rfl hl.1 rfl (lv_room (Nat.le_of_ble_eq_true rfl)) dX4_runByNever_8 ⟨Nat.zero_le _, Nat.zero_le _⟩) hS hA hP hD [7, 8, 9, 4, 5, 6] [0, 1, 2, 3, 10, 11, 12, 13, 14, 15, 16, 17, 18, 19, 20] [0, 1, 2, 3, 18, 19, 20, 15, 16, 17, 4, 5, 6, 7, 8, 9, 10, 11, 12, 13, 14] (by decide) rfl (by decide) (by decide) rfl (fun u => rfl) (fun u => rfl) (fun u => rfl) (fun u H locs h hP hD hS => ?_)
  obtain ⟨Sm_8, eu⟩ : ∃ z, z = u := ⟨_, rfl⟩
  subst eu
  replace hP : va_P D zCl ((bX4 ah an am af ai aj al ag cy S) ++ ((bX3 an cy Sn) ++ ((bX3 am cy Sm_8) ++ ((bX1 ag cy Sg))))) H := hP
  replace hD : va_D A ((bX4 ah an am af ai aj al ag cy S) ++ ((bX3 an cy Sn) ++ ((bX3 am cy Sm_8) ++ ((bX1 ag cy Sg))))) := hD
  refine lv_aload_n hx hb dX4_runByNever_11 rfl (lv_at hl 0 rfl) ?_
  refine va_get (D := D) (ci := 4) (v := .ref (am 99)) (C := RX4) (T := TX4) (N := 12) hx hb htB ziX4 hown hK hP 0 rfl rfl 1 (by decide) (htB _ zm_204) (fun _ h9 => h9) rfl dX4_runByNever_12 ?_
  refine lv_iconst (v := (4 : Int32)) hx hb dX4_runByNever_15 (by decide) ?_
  refine lv_iconst (v := (0 : Int32)) hx hb dX4_runByNever_16 (by decide) ?_
  have hPc : va_P D zCl (bX3 am cy Sm_8) H := hP.sub [7, 8, 9] rfl
  have hDc : va_D A (bX3 am cy Sm_8) := hD.sub [7, 8, 9] (by decide) rfl
  refine zc_i (ws' := fun u => ((bX4 ah an am af ai aj al ag cy S) ++ ((bX3 an cy Sn) ++ ((bX3 am cy u) ++ ((bX1 ag cy Sg)))))) (va_runV (As := [.int (4 : Int32), .int (0 : Int32)]) (rest := []) ⟨hx, hb, hml, hown, htB⟩ (c_X3_change l D cy am H.size (4 : Int32) (0 : Int32) Sm_8 h) (cwV 2 htB (zgV zm_159 zm_135 zm_136 zm_28 zm_134) rfl rfl rfl hd_X3_change ⟨Nat.le_of_ble_eq_true rfl, Nat.le_of_ble_eq_true rfl⟩) ⟨zM_blind, va_recv hK hP (ci := 3) (q0 := 7) rfl rfl, zM_pre hPc hK hN hDc⟩ rfl rfl hl.1 rfl (lv_room (Nat.le_of_ble_eq_true rfl)) dX4_runByNever_17 ⟨Nat.zero_le _, Nat.zero_le _⟩) hS hA hP hD [7, 8, 9] [0, 1, 2, 3, 4, 5, 6, 10, 11, 12, 13, 14, 15, 16, 17, 18, 19, 20] [0, 1, 2, 3, 4, 5, 6, 18, 19, 20, 7, 8, 9, 10, 11, 12, 13, 14, 15, 16, 17] (by decide) rfl (by decide) (by decide) rfl (fun u => rfl) (fun u => rfl) (fun u => rfl) (fun r17 u H locs h hP hD hS => ?_)
  obtain ⟨Sm_17, eu⟩ : ∃ z, z = u := ⟨_, rfl⟩
  subst eu
  replace hP : va_P D zCl ((bX4 ah an am af ai aj al ag cy S) ++ ((bX3 an cy Sn) ++ ((bX3 am cy Sm_17) ++ ((bX1 ag cy Sg))))) H := hP
  replace hD : va_D A ((bX4 ah an am af ai aj al ag cy S) ++ ((bX3 an cy Sn) ++ ((bX3 am cy Sm_17) ++ ((bX1 ag cy Sg))))) := hD
  refine lv_pop hx hb dX4_runByNever_20 rfl ?_
  refine lv_aload_n hx hb dX4_runByNever_21 rfl (lv_at hl 0 rfl) ?_
  refine va_get (D := D) (ci := 4) (v := .ref (ag 99)) (C := RX4) (T := TX4) (N := 12) hx hb htB ziX4 hown hK hP 0 rfl rfl 7 (by decide) (htB _ zm_165) (fun _ h9 => h9) rfl dX4_runByNever_22 ?_
  refine lv_aload_n hx hb dX4_runByNever_25 rfl (lv_at hl 0 rfl) ?_
  refine va_get (D := D) (ci := 4) (v := .ref (am 99)) (C := RX4) (T := TX4) (N := 12) hx hb htB ziX4 hown hK hP 0 rfl rfl 1 (by decide) (htB _ zm_204) (fun _ h9 => h9) rfl dX4_runByNever_26 ?_
  have hPc : va_P D zCl ((bX1 ag cy Sg) ++ ((bX3 am cy Sm_17))) H := hP.sub [10, 11, 12, 13, 14, 15, 16, 17, 18, 19, 20, 7, 8, 9] rfl
  have hDc : va_D A ((bX1 ag cy Sg) ++ ((bX3 am cy Sm_17))) := hD.sub [10, 11, 12, 13, 14, 15, 16, 17, 18, 19, 20, 7, 8, 9] (by decide) rfl
  refine zc_v (ws' := fun u => ((bX4 ah an am af ai aj al ag cy S) ++ ((bX3 an cy Sn) ++ ((bX3 am cy Sm_17) ++ ((bX1 ag cy u)))))) (va_runV (As := [.ref (am 99)]) (rest := []) ⟨hx, hb, hml, hown, htB⟩ (c_X1_run l D cy ag am H.size Sm_17 Sg h) (cwV 1 htB (zgV zm_166 zm_168 zm_169 zm_57 zm_167) rfl rfl rfl hd_X1_run ⟨Nat.le_of_ble_eq_true rfl, Nat.le_of_ble_eq_true rfl⟩) ⟨zM_blind, va_recv hK hP (ci := 1) (q0 := 10) rfl rfl, zM_pre hPc hK hN hDc⟩ rfl rfl hl.1 rfl (lv_room (Nat.le_of_ble_eq_true rfl)) dX4_runByNever_29 ⟨Nat.zero_le _, Nat.zero_le _⟩) hS hA hP hD [10, 11, 12, 13, 14, 15, 16, 17, 18, 19, 20, 7, 8, 9] [0, 1, 2, 3, 4, 5, 6] [0, 1, 2, 3, 4, 5, 6, 18, 19, 20, 7, 8, 9, 10, 11, 12, 13, 14, 15, 16, 17] (by decide) rfl (by decide) (by decide) rfl (fun u => rfl) (fun u => rfl) (fun u => rfl) (fun u H locs h hP hD hS => ?_)
  obtain ⟨Sg_29, eu⟩ : ∃ z, z = u := ⟨_, rfl⟩
  subst eu
  replace hP : va_P D zCl ((bX4 ah an am af ai aj al ag cy S) ++ ((bX3 an cy Sn) ++ ((bX3 am cy Sm_17) ++ ((bX1 ag cy Sg_29))))) H := hP
  replace hD : va_D A ((bX4 ah an am af ai aj al ag cy S) ++ ((bX3 an cy Sn) ++ ((bX3 am cy Sm_17) ++ ((bX1 ag cy Sg_29))))) := hD
  exact W.vret hx hb hr (fun t ht hW => ⟨⟨(Sm_17, Sg_29), rfl, h, zP_h ht hP⟩, hS.F ht⟩) hS.2.2 dX4_runByNever_32
set_option maxHeartbeats 4000000 in
set_option maxRecDepth 100000 in
theorem c_X4_worse (l : Launch) (D : va_G) (cy : ClassId) (ah : Nat → Nat) (an : Nat → Nat) (am : Nat → Nat) (af : Nat → Nat) (ai : Nat → Nat) (aj : Nat → Nat) (al : Nat → Nat) (ag : Nat → Nat) (sz : Nat) (Sn : zT) (S : zT) (Sm : zT) (Sg : zT) {Q : Int32 → zT → zT → zT → Prop} (h : wp_X4_worse Sn S Sm Sg Q) : Met l yX4_worse w_X4_worse rm_X4_worse (va_Pc [.ref (ah 99)] (zM D cy ((bX4 ah an am af ai aj al ag cy S) ++ ((bX3 an cy Sn) ++ ((bX3 am cy Sm) ++ ((bX1 ag cy Sg))))) sz)) (va_Qi (S := zT × zT × zT) (fun (r : Int32) (u : zT × zT × zT) => Q r (u.1) (u.2.1) (u.2.2)) (fun u t => va_P D zCl ((fun (u : zT × zT × zT) => ((bX4 ah an am af ai aj al ag cy (u.1)) ++ ((bX3 an cy Sn) ++ ((bX3 am cy (u.2.1)) ++ ((bX1 ag cy (u.2.2))))))) u) t.heap) (va_A ((bX4 ah an am af ai aj al ag cy S) ++ ((bX3 an cy Sn) ++ ((bX3 am cy Sm) ++ ((bX1 ag cy Sg))))) sz)) 0 0 (va_A ((bX4 ah an am af ai aj al ag cy S) ++ ((bX3 an cy Sn) ++ ((bX3 am cy Sm) ++ ((bX1 ag cy Sg))))) sz) := by
  refine zOf_i (by decide) (Nat.le_of_ble_eq_true rfl) ?_
  intro p e s m below meth c ls A H locs hx hb hr hml hown htB hlocks hK hN hP hD hS hA hl
  replace hl : lv_has ls 3 [(0, .ref (ah 99))] := hl
  have L57 : ∀ (k57 : Nat) (x1 : Int32) (x2 : Int32) (S : zT) (Sm : zT) (Sg : zT), wpl_X4_worse_57 Sn Q k57 x1 x2 S Sm Sg → ∀ (H : Heap) (locs : List Loc), va_P D zCl ((bX4 ah an am af ai aj al ag cy S) ++ ((bX3 an cy Sn) ++ ((bX3 am cy Sm) ++ ((bX1 ag cy Sg))))) H → va_D A ((bX4 ah an am af ai aj al ag cy S) ++ ((bX3 an cy Sn) ++ ((bX3 am cy Sm) ++ ((bX1 ag cy Sg))))) → va_S A s.heap H locs → ∀ ls : Array Slot, lv_has ls 3 [(0, .ref (ah 99)), (1, .int x1), (2, .int x2)] → W p l e rm_X4_worse s m ([.ref (ah 99)] : List Value).toArray below meth c H locs 0 0 (MQ below (va_Qi (S := zT × zT × zT) (fun (r : Int32) (u : zT × zT × zT) => Q r (u.1) (u.2.1) (u.2.2)) (fun u t => va_P D zCl ((fun (u : zT × zT × zT) => ((bX4 ah an am af ai aj al ag cy (u.1)) ++ ((bX3 an cy Sn) ++ ((bX3 am cy (u.2.1)) ++ ((bX1 ag cy (u.2.2))))))) u) t.heap) A) ([.ref (ah 99)] : List Value).toArray s 0 0 A) (F0 m 57 ls []) := by
    intro k57
    induction k57 with
    | zero => exact fun x1 x2 S Sm Sg h => False.elim h
    | succ k57 ih57 =>
      have L96 : ∀ (x1 : Int32) (x2 : Int32) (S : zT) (Sm : zT) (Sg : zT), wpb_X4_worse_96 Sn Q (wpl_X4_worse_57 Sn Q k57) x1 x2 S Sm Sg → ∀ (H : Heap) (locs : List Loc), va_P D zCl ((bX4 ah an am af ai aj al ag cy S) ++ ((bX3 an cy Sn) ++ ((bX3 am cy Sm) ++ ((bX1 ag cy Sg))))) H → va_D A ((bX4 ah an am af ai aj al ag cy S) ++ ((bX3 an cy Sn) ++ ((bX3 am cy Sm) ++ ((bX1 ag cy Sg))))) → va_S A s.heap H locs → ∀ ls : Array Slot, lv_has ls 3 [(0, .ref (ah 99)), (1, .int x1), (2, .int x2)] → W p l e rm_X4_worse s m ([.ref (ah 99)] : List Value).toArray below meth c H locs 0 0 (MQ below (va_Qi (S := zT × zT × zT) (fun (r : Int32) (u : zT × zT × zT) => Q r (u.1) (u.2.1) (u.2.2)) (fun u t => va_P D zCl ((fun (u : zT × zT × zT) => ((bX4 ah an am af ai aj al ag cy (u.1)) ++ ((bX3 an cy Sn) ++ ((bX3 am cy (u.2.1)) ++ ((bX1 ag cy (u.2.2))))))) u) t.heap) A) ([.ref (ah 99)] : List Value).toArray s 0 0 A) (F0 m 96 ls []) := by
        intro x1 x2 S Sm Sg h H locs hP hD hS ls hl
        obtain ⟨y96, ey96⟩ : ∃ z : Int32, z = (x2 + (1 : Int32)) := ⟨_, rfl⟩
        replace h := h y96 ey96
        refine lv_iinc (v := y96) (lv' := [(2, .int y96), (0, .ref (ah 99)), (1, .int x1)]) hx hb dX4_worse_96 hl (k := 2) rfl (by rw [ey96]; rfl) (by decide) rfl (fun ls hl => ?_)
        refine lv_goto (tgt := 57) hx hb dX4_worse_99 (by decide) ?_
        exact ih57 x1 y96 S Sm Sg h H locs hP hD hS ls (lv_sub hl [1, 2, 0] rfl)
      intro x1 x2 S Sm Sg h H locs hP hD hS ls hl
      refine lv_iload_n hx hb dX4_worse_57 rfl (lv_at hl 2 rfl) ?_
      refine lv_aload_n hx hb dX4_worse_58 rfl (lv_at hl 0 rfl) ?_
      refine va_get (D := D) (ci := 4) (v := .ref (an 99)) (C := RX4) (T := TX4) (N := 12) hx hb htB ziX4 hown hK hP 0 rfl rfl 0 (by decide) (htB _ zm_155) (fun _ h9 => h9) rfl dX4_worse_59 ?_
      refine va_getN (D := D) (ci := 3) (v := .int (Sn 2 0)) (C := RX3) (T := TX3) (N := 3) hx hb htB ziX3 hown hK hP 4 rfl rfl 2 (by decide) (va_Nw.use rfl (hN _ zm_164)) (fun _ h9 => h9) rfl dX4_worse_62 ?_
      refine lv_icmp_ge (tgt := 102) hx hb dX4_worse_65 (by decide) (fun c65 => ?_) (fun c65 => ?_)
      · replace h := And.left h c65
        refine lv_iload_n hx hb dX4_worse_102 rfl (lv_at hl 1 rfl) ?_
        exact W.iret (v := x1) hx hb hr (fun t ht hW => ⟨⟨_, (S, Sm, Sg), rfl, h, zP_h ht hP⟩, hS.F ht⟩) hS.2.2 dX4_worse_103
      · replace h := And.right h c65
        refine lv_aload_n hx hb dX4_worse_68 rfl (lv_at hl 0 rfl) ?_
        refine va_get (D := D) (ci := 4) (v := .ref (ag 99)) (C := RX4) (T := TX4) (N := 12) hx hb htB ziX4 hown hK hP 0 rfl rfl 7 (by decide) (htB _ zm_165) (fun _ h9 => h9) rfl dX4_worse_69 ?_
        refine va_getN (D := D) (ci := 1) (v := .ref (ag 7)) (C := RX1) (T := TX1) (N := 11) hx hb htB ziX1 hown hK hP 10 rfl rfl 7 (by decide) (va_Nw.use rfl (hN _ zm_185)) (fun _ h9 => h9) rfl dX4_worse_72 ?_
        refine lv_iload_n hx hb dX4_worse_75 rfl (lv_at hl 2 rfl) ?_
        have hPc : va_P D zCl [((ag 7), .inl (cy, 8, .inl (Sg 7)))] H := hP.sub [18] rfl
        refine zc_r (va_runS (As := [.ref (ag 7), .int x2]) (rest := []) ⟨hx, hb, hml, hown, htB⟩ (c_X4_at l D cy (ag 7) 8 (Sg 7) x2 h) (cwS 2 htB (zgS zm_143 zm_14 zm_4 zm_13) rfl rfl rfl hd_X4_at ⟨Nat.le_of_ble_eq_true rfl, Nat.le_of_ble_eq_true rfl⟩) ⟨zR_blind, zR_pre hPc hK hN⟩ rfl rfl hl.1 rfl (lv_room (Nat.le_of_ble_eq_true rfl)) dX4_worse_76 ⟨Nat.zero_le _, Nat.zero_le _⟩) (fun r76 h => ?_)
        refine lv_aload_n hx hb dX4_worse_79 rfl (lv_at hl 0 rfl) ?_
        refine va_get (D := D) (ci := 4) (v := .ref (ah 8)) (C := RX4) (T := TX4) (N := 12) hx hb htB ziX4 hown hK hP 0 rfl rfl 8 (by decide) (htB _ zm_213) (fun _ h9 => h9) rfl dX4_worse_80 ?_
        refine lv_iload_n hx hb dX4_worse_83 rfl (lv_at hl 2 rfl) ?_
        have hPc : va_P D zCl [((ah 8), .inl (cy, 8, .inl (S 8)))] H := hP.sub [1] rfl
        refine zc_r (va_runS (As := [.ref (ah 8), .int x2]) (rest := [.int r76]) ⟨hx, hb, hml, hown, htB⟩ (c_X4_at l D cy (ah 8) 8 (S 8) x2 h) (cwS 2 htB (zgS zm_143 zm_14 zm_4 zm_13) rfl rfl rfl hd_X4_at ⟨Nat.le_of_ble_eq_true rfl, Nat.le_of_ble_eq_true rfl⟩) ⟨zR_blind, zR_pre hPc hK hN⟩ rfl rfl hl.1 rfl (lv_room (Nat.le_of_ble_eq_true rfl)) dX4_worse_84 ⟨Nat.zero_le _, Nat.zero_le _⟩) (fun r84 h => ?_)
        refine lv_icmp_le (tgt := 96) hx hb dX4_worse_87 (by decide) (fun c87 => ?_) (fun c87 => ?_)
        · replace h := And.left h c87
          exact L96 x1 x2 S Sm Sg h H locs hP hD hS ls (lv_sub hl [0, 1, 2] rfl)
        · replace h := And.right h c87
          refine lv_iload_n hx hb dX4_worse_90 rfl (lv_at hl 1 rfl) ?_
          refine lv_iconst (v := (1 : Int32)) hx hb dX4_worse_91 (by decide) ?_
          refine lv_iload_n hx hb dX4_worse_92 rfl (lv_at hl 2 rfl) ?_
          refine lv_ishl hx hb dX4_worse_93 ?_
          refine lv_ior hx hb dX4_worse_94 ?_
          refine lv_topi (fun y95 ey95 => ?_)
          replace h := h y95 ey95
          refine lv_istore_n (lv' := [(1, .int y95), (0, .ref (ah 99)), (2, .int x2)]) hx hb dX4_worse_95 rfl hl (by decide) rfl (fun ls hl => ?_)
          exact L96 y95 x2 S Sm Sg h H locs hP hD hS ls (lv_sub hl [1, 0, 2] rfl)
  have L42 : ∀ (S : zT) (Sm : zT) (Sg : zT), wpb_X4_worse_42 Sn Q S Sm Sg → ∀ (H : Heap) (locs : List Loc), va_P D zCl ((bX4 ah an am af ai aj al ag cy S) ++ ((bX3 an cy Sn) ++ ((bX3 am cy Sm) ++ ((bX1 ag cy Sg))))) H → va_D A ((bX4 ah an am af ai aj al ag cy S) ++ ((bX3 an cy Sn) ++ ((bX3 am cy Sm) ++ ((bX1 ag cy Sg))))) → va_S A s.heap H locs → ∀ ls : Array Slot, lv_has ls 3 [(0, .ref (ah 99))] → W p l e rm_X4_worse s m ([.ref (ah 99)] : List Value).toArray below meth c H locs 0 0 (MQ below (va_Qi (S := zT × zT × zT) (fun (r : Int32) (u : zT × zT × zT) => Q r (u.1) (u.2.1) (u.2.2)) (fun u t => va_P D zCl ((fun (u : zT × zT × zT) => ((bX4 ah an am af ai aj al ag cy (u.1)) ++ ((bX3 an cy Sn) ++ ((bX3 am cy (u.2.1)) ++ ((bX1 ag cy (u.2.2))))))) u) t.heap) A) ([.ref (ah 99)] : List Value).toArray s 0 0 A) (F0 m 42 ls []) := by
    intro S Sm Sg h H locs hP hD hS ls hl
    refine lv_aload_n hx hb dX4_worse_42 rfl (lv_at hl 0 rfl) ?_
    refine va_get (D := D) (ci := 4) (v := .ref (ag 99)) (C := RX4) (T := TX4) (N := 12) hx hb htB ziX4 hown hK hP 0 rfl rfl 7 (by decide) (htB _ zm_165) (fun _ h9 => h9) rfl dX4_worse_43 ?_
    refine lv_aload_n hx hb dX4_worse_46 rfl (lv_at hl 0 rfl) ?_
    refine va_get (D := D) (ci := 4) (v := .ref (an 99)) (C := RX4) (T := TX4) (N := 12) hx hb htB ziX4 hown hK hP 0 rfl rfl 0 (by decide) (htB _ zm_155) (fun _ h9 => h9) rfl dX4_worse_47 ?_
    have hPc : va_P D zCl ((bX1 ag cy Sg) ++ ((bX3 an cy Sn))) H := hP.sub [10, 11, 12, 13, 14, 15, 16, 17, 18, 19, 20, 4, 5, 6] rfl
    have hDc : va_D A ((bX1 ag cy Sg) ++ ((bX3 an cy Sn))) := hD.sub [10, 11, 12, 13, 14, 15, 16, 17, 18, 19, 20, 4, 5, 6] (by decide) rfl
    refine zc_v (ws' := fun u => ((bX4 ah an am af ai aj al ag cy S) ++ ((bX3 an cy Sn) ++ ((bX3 am cy Sm) ++ ((bX1 ag cy u)))))) (va_runV (As := [.ref (an 99)]) (rest := []) ⟨hx, hb, hml, hown, htB⟩ (c_X1_run l D cy ag an H.size Sn Sg h) (cwV 1 htB (zgV zm_166 zm_168 zm_169 zm_57 zm_167) rfl rfl rfl hd_X1_run ⟨Nat.le_of_ble_eq_true rfl, Nat.le_of_ble_eq_true rfl⟩) ⟨zM_blind, va_recv hK hP (ci := 1) (q0 := 10) rfl rfl, zM_pre hPc hK hN hDc⟩ rfl rfl hl.1 rfl (lv_room (Nat.le_of_ble_eq_true rfl)) dX4_worse_50 ⟨Nat.zero_le _, Nat.zero_le _⟩) hS hA hP hD [10, 11, 12, 13, 14, 15, 16, 17, 18, 19, 20, 4, 5, 6] [0, 1, 2, 3, 7, 8, 9] [0, 1, 2, 3, 18, 19, 20, 4, 5, 6, 7, 8, 9, 10, 11, 12, 13, 14, 15, 16, 17] (by decide) rfl (by decide) (by decide) rfl (fun u => rfl) (fun u => rfl) (fun u => rfl) (fun u H locs h hP hD hS => ?_)
    obtain ⟨Sg_50, eu⟩ : ∃ z, z = u := ⟨_, rfl⟩
    subst eu
    replace hP : va_P D zCl ((bX4 ah an am af ai aj al ag cy S) ++ ((bX3 an cy Sn) ++ ((bX3 am cy Sm) ++ ((bX1 ag cy Sg_50))))) H := hP
    replace hD : va_D A ((bX4 ah an am af ai aj al ag cy S) ++ ((bX3 an cy Sn) ++ ((bX3 am cy Sm) ++ ((bX1 ag cy Sg_50))))) := hD
    refine lv_iconst (v := (0 : Int32)) hx hb dX4_worse_53 (by decide) ?_
    refine lv_istore_n (lv' := [(1, .int (0 : Int32)), (0, .ref (ah 99))]) hx hb dX4_worse_54 rfl hl (by decide) rfl (fun ls hl => ?_)
    refine lv_iconst (v := (0 : Int32)) hx hb dX4_worse_55 (by decide) ?_
    refine lv_istore_n (lv' := [(2, .int (0 : Int32)), (1, .int (0 : Int32)), (0, .ref (ah 99))]) hx hb dX4_worse_56 rfl hl (by decide) rfl (fun ls hl => ?_)
    obtain ⟨nn, h⟩ := h
    exact L57 nn (0 : Int32) (0 : Int32) S Sm Sg_50 h H locs hP hD hS ls (lv_sub hl [2, 1, 0] rfl)
  have L6 : ∀ (k6 : Nat) (x1 : Int32) (S : zT) (Sm : zT) (Sg : zT), wpl_X4_worse_6 Sn Q k6 x1 S Sm Sg → ∀ (H : Heap) (locs : List Loc), va_P D zCl ((bX4 ah an am af ai aj al ag cy S) ++ ((bX3 an cy Sn) ++ ((bX3 am cy Sm) ++ ((bX1 ag cy Sg))))) H → va_D A ((bX4 ah an am af ai aj al ag cy S) ++ ((bX3 an cy Sn) ++ ((bX3 am cy Sm) ++ ((bX1 ag cy Sg))))) → va_S A s.heap H locs → ∀ ls : Array Slot, lv_has ls 3 [(0, .ref (ah 99)), (1, .int x1)] → W p l e rm_X4_worse s m ([.ref (ah 99)] : List Value).toArray below meth c H locs 0 0 (MQ below (va_Qi (S := zT × zT × zT) (fun (r : Int32) (u : zT × zT × zT) => Q r (u.1) (u.2.1) (u.2.2)) (fun u t => va_P D zCl ((fun (u : zT × zT × zT) => ((bX4 ah an am af ai aj al ag cy (u.1)) ++ ((bX3 an cy Sn) ++ ((bX3 am cy (u.2.1)) ++ ((bX1 ag cy (u.2.2))))))) u) t.heap) A) ([.ref (ah 99)] : List Value).toArray s 0 0 A) (F0 m 6 ls []) := by
    intro k6
    induction k6 with
    | zero => exact fun x1 S Sm Sg h => False.elim h
    | succ k6 ih6 =>
      intro x1 S Sm Sg h H locs hP hD hS ls hl
      refine lv_iload_n hx hb dX4_worse_6 rfl (lv_at hl 1 rfl) ?_
      refine lv_aload_n hx hb dX4_worse_7 rfl (lv_at hl 0 rfl) ?_
      refine va_get (D := D) (ci := 4) (v := .ref (an 99)) (C := RX4) (T := TX4) (N := 12) hx hb htB ziX4 hown hK hP 0 rfl rfl 0 (by decide) (htB _ zm_155) (fun _ h9 => h9) rfl dX4_worse_8 ?_
      refine va_getN (D := D) (ci := 3) (v := .int (Sn 2 0)) (C := RX3) (T := TX3) (N := 3) hx hb htB ziX3 hown hK hP 4 rfl rfl 2 (by decide) (va_Nw.use rfl (hN _ zm_164)) (fun _ h9 => h9) rfl dX4_worse_11 ?_
      refine lv_icmp_ge (tgt := 42) hx hb dX4_worse_14 (by decide) (fun c14 => ?_) (fun c14 => ?_)
      · replace h := And.left h c14
        exact L42 S Sm Sg h H locs hP hD hS ls (lv_sub hl [0] rfl)
      · replace h := And.right h c14
        refine lv_aload_n hx hb dX4_worse_17 rfl (lv_at hl 0 rfl) ?_
        refine va_get (D := D) (ci := 4) (v := .ref (ah 8)) (C := RX4) (T := TX4) (N := 12) hx hb htB ziX4 hown hK hP 0 rfl rfl 8 (by decide) (htB _ zm_213) (fun _ h9 => h9) rfl dX4_worse_18 ?_
        refine lv_iload_n hx hb dX4_worse_21 rfl (lv_at hl 1 rfl) ?_
        refine lv_aload_n hx hb dX4_worse_22 rfl (lv_at hl 0 rfl) ?_
        refine va_get (D := D) (ci := 4) (v := .ref (ag 99)) (C := RX4) (T := TX4) (N := 12) hx hb htB ziX4 hown hK hP 0 rfl rfl 7 (by decide) (htB _ zm_165) (fun _ h9 => h9) rfl dX4_worse_23 ?_
        refine va_getN (D := D) (ci := 1) (v := .ref (ag 7)) (C := RX1) (T := TX1) (N := 11) hx hb htB ziX1 hown hK hP 10 rfl rfl 7 (by decide) (va_Nw.use rfl (hN _ zm_185)) (fun _ h9 => h9) rfl dX4_worse_26 ?_
        refine lv_iload_n hx hb dX4_worse_29 rfl (lv_at hl 1 rfl) ?_
        have hPc : va_P D zCl [((ag 7), .inl (cy, 8, .inl (Sg 7)))] H := hP.sub [18] rfl
        refine zc_r (va_runS (As := [.ref (ag 7), .int x1]) (rest := [.int x1, .ref (ah 8)]) ⟨hx, hb, hml, hown, htB⟩ (c_X4_at l D cy (ag 7) 8 (Sg 7) x1 h) (cwS 2 htB (zgS zm_143 zm_14 zm_4 zm_13) rfl rfl rfl hd_X4_at ⟨Nat.le_of_ble_eq_true rfl, Nat.le_of_ble_eq_true rfl⟩) ⟨zR_blind, zR_pre hPc hK hN⟩ rfl rfl hl.1 rfl (lv_room (Nat.le_of_ble_eq_true rfl)) dX4_worse_30 ⟨Nat.zero_le _, Nat.zero_le _⟩) (fun r30 h => ?_)
        have hPc : va_P D zCl [((ah 8), .inl (cy, 8, .inl (S 8)))] H := hP.sub [1] rfl
        have hDc : va_D A [((ah 8), .inl (cy, 8, .inl (S 8)))] := hD.sub [1] (by decide) rfl
        refine zc_v (ws' := fun u => ((bX4 ah an am af ai aj al ag cy (va_up S 8 u)) ++ ((bX3 an cy Sn) ++ ((bX3 am cy Sm) ++ ((bX1 ag cy Sg)))))) (va_runS (As := [.ref (ah 8), .int x1, .int r30]) (rest := []) ⟨hx, hb, hml, hown, htB⟩ (c_X4_put l D cy (ah 8) H.size 8 x1 r30 (S 8) h) (cwS 3 htB (zgS zm_144 zm_5 zm_4 zm_3) rfl rfl rfl hd_X4_put ⟨Nat.le_of_ble_eq_true rfl, Nat.le_of_ble_eq_true rfl⟩) ⟨zM_blind, zM_pre hPc hK hN hDc⟩ rfl rfl hl.1 rfl (lv_room (Nat.le_of_ble_eq_true rfl)) dX4_worse_33 ⟨Nat.zero_le _, Nat.zero_le _⟩) hS hA hP hD [1] [0, 2, 3, 4, 5, 6, 7, 8, 9, 10, 11, 12, 13, 14, 15, 16, 17, 18, 19, 20] [0, 20, 1, 2, 3, 4, 5, 6, 7, 8, 9, 10, 11, 12, 13, 14, 15, 16, 17, 18, 19] (by decide) rfl (by decide) (by decide) rfl (fun u => rfl) (fun u => rfl) (fun u => rfl) (fun u H locs h hP hD hS => ?_)
        obtain ⟨gf0_33, eu⟩ : ∃ z, z = u := ⟨_, rfl⟩
        subst eu
        replace hP : va_P D zCl ((bX4 ah an am af ai aj al ag cy (va_up S 8 gf0_33)) ++ ((bX3 an cy Sn) ++ ((bX3 am cy Sm) ++ ((bX1 ag cy Sg))))) H := hP
        replace hD : va_D A ((bX4 ah an am af ai aj al ag cy (va_up S 8 gf0_33)) ++ ((bX3 an cy Sn) ++ ((bX3 am cy Sm) ++ ((bX1 ag cy Sg))))) := hD
        obtain ⟨S_33, eS_33⟩ : ∃ z : zT, z = (va_up S 8 gf0_33) := ⟨_, rfl⟩
        replace h := h S_33 eS_33
        replace hP : va_P D zCl ((bX4 ah an am af ai aj al ag cy S_33) ++ ((bX3 an cy Sn) ++ ((bX3 am cy Sm) ++ ((bX1 ag cy Sg))))) H := by rw [eS_33]; exact hP
        replace hD : va_D A ((bX4 ah an am af ai aj al ag cy S_33) ++ ((bX3 an cy Sn) ++ ((bX3 am cy Sm) ++ ((bX1 ag cy Sg))))) := by rw [eS_33]; exact hD
        obtain ⟨y36, ey36⟩ : ∃ z : Int32, z = (x1 + (1 : Int32)) := ⟨_, rfl⟩
        replace h := h y36 ey36
        refine lv_iinc (v := y36) (lv' := [(1, .int y36), (0, .ref (ah 99))]) hx hb dX4_worse_36 hl (k := 1) rfl (by rw [ey36]; rfl) (by decide) rfl (fun ls hl => ?_)
        refine lv_goto (tgt := 6) hx hb dX4_worse_39 (by decide) ?_
        exact ih6 y36 S_33 Sm Sg h H locs hP hD hS ls (lv_sub hl [1, 0] rfl)
  refine lv_aload_n hx hb dX4_worse_0 rfl (lv_at hl 0 rfl) ?_
  refine zc_vf (ws' := fun u => ((bX4 ah an am af ai aj al ag cy S) ++ ((bX3 an cy Sn) ++ ((bX3 am cy (u.1)) ++ ((bX1 ag cy (u.2))))))) (va_runV (As := []) (rest := []) ⟨hx, hb, hml, hown, htB⟩ (c_X4_runByNever l D cy ah an am af ai aj al ag H.size S Sn Sm Sg h) (cwV 0 htB (zgV zm_214 zm_216 zm_217 zm_4 zm_215) rfl rfl rfl hd_X4_runByNever ⟨Nat.le_of_ble_eq_true rfl, Nat.le_of_ble_eq_true rfl⟩) ⟨zM_blind, va_recv hK hP (ci := 4) (q0 := 0) rfl rfl, zM_pre hP hK hN hD⟩ rfl rfl hl.1 rfl (lv_room (Nat.le_of_ble_eq_true rfl)) dX4_worse_1 ⟨Nat.zero_le _, Nat.zero_le _⟩) hS hA hP hD (fun u => rfl) (fun u => rfl) (fun u H locs h hP hD hS => ?_)
  obtain ⟨Sm_1, Sg_1⟩ := u
  replace hP : va_P D zCl ((bX4 ah an am af ai aj al ag cy S) ++ ((bX3 an cy Sn) ++ ((bX3 am cy Sm_1) ++ ((bX1 ag cy Sg_1))))) H := hP
  replace hD : va_D A ((bX4 ah an am af ai aj al ag cy S) ++ ((bX3 an cy Sn) ++ ((bX3 am cy Sm_1) ++ ((bX1 ag cy Sg_1))))) := hD
  refine lv_iconst (v := (0 : Int32)) hx hb dX4_worse_4 (by decide) ?_
  refine lv_istore_n (lv' := [(1, .int (0 : Int32)), (0, .ref (ah 99))]) hx hb dX4_worse_5 rfl hl (by decide) rfl (fun ls hl => ?_)
  obtain ⟨nn, h⟩ := h
  exact L6 nn (0 : Int32) S Sm_1 Sg_1 h H locs hP hD hS ls (lv_sub hl [1, 0] rfl)
set_option maxHeartbeats 4000000 in
set_option maxRecDepth 100000 in
theorem c_X4_followed (l : Launch) (D : va_G) (cy : ClassId) (ah : Nat → Nat) (an : Nat → Nat) (am : Nat → Nat) (af : Nat → Nat) (ai : Nat → Nat) (aj : Nat → Nat) (al : Nat → Nat) (ag : Nat → Nat) (sz : Nat) (S : zT) (Sn : zT) (Sg : zT) {Q : Int32 → zT → Prop} (h : wp_X4_followed S Sn Sg Q) : Met l yX4_followed w_X4_followed rm_X4_followed (va_Pc [.ref (ah 99)] (zM D cy ((bX4 ah an am af ai aj al ag cy S) ++ ((bX3 an cy Sn) ++ ((bX1 ag cy Sg)))) sz)) (va_Qi (S := zT) (fun (r : Int32) (u : zT) => Q r u) (fun u t => va_P D zCl ((fun (u : zT) => ((bX4 ah an am af ai aj al ag cy S) ++ ((bX3 an cy Sn) ++ ((bX1 ag cy u))))) u) t.heap) (va_A ((bX4 ah an am af ai aj al ag cy S) ++ ((bX3 an cy Sn) ++ ((bX1 ag cy Sg)))) sz)) 0 0 (va_A ((bX4 ah an am af ai aj al ag cy S) ++ ((bX3 an cy Sn) ++ ((bX1 ag cy Sg)))) sz) := by
  refine zOf_i (by decide) (Nat.le_of_ble_eq_true rfl) ?_
  intro p e s m below meth c ls A H locs hx hb hr hml hown htB hlocks hK hN hP hD hS hA hl
  replace hl : lv_has ls 3 [(0, .ref (ah 99))] := hl
  have L15 : ∀ (k15 : Nat) (x1 : Int32) (x2 : Int32) (Sg : zT), wpl_X4_followed_15 S Sn Q k15 x1 x2 Sg → ∀ (H : Heap) (locs : List Loc), va_P D zCl ((bX4 ah an am af ai aj al ag cy S) ++ ((bX3 an cy Sn) ++ ((bX1 ag cy Sg)))) H → va_D A ((bX4 ah an am af ai aj al ag cy S) ++ ((bX3 an cy Sn) ++ ((bX1 ag cy Sg)))) → va_S A s.heap H locs → ∀ ls : Array Slot, lv_has ls 3 [(0, .ref (ah 99)), (1, .int x1), (2, .int x2)] → W p l e rm_X4_followed s m ([.ref (ah 99)] : List Value).toArray below meth c H locs 0 0 (MQ below (va_Qi (S := zT) (fun (r : Int32) (u : zT) => Q r u) (fun u t => va_P D zCl ((fun (u : zT) => ((bX4 ah an am af ai aj al ag cy S) ++ ((bX3 an cy Sn) ++ ((bX1 ag cy u))))) u) t.heap) A) ([.ref (ah 99)] : List Value).toArray s 0 0 A) (F0 m 15 ls []) := by
    intro k15
    induction k15 with
    | zero => exact fun x1 x2 Sg h => False.elim h
    | succ k15 ih15 =>
      have L59 : ∀ (x1 : Int32) (x2 : Int32) (Sg : zT), wpb_X4_followed_59 S Sn Q (wpl_X4_followed_15 S Sn Q k15) x1 x2 Sg → ∀ (H : Heap) (locs : List Loc), va_P D zCl ((bX4 ah an am af ai aj al ag cy S) ++ ((bX3 an cy Sn) ++ ((bX1 ag cy Sg)))) H → va_D A ((bX4 ah an am af ai aj al ag cy S) ++ ((bX3 an cy Sn) ++ ((bX1 ag cy Sg)))) → va_S A s.heap H locs → ∀ ls : Array Slot, lv_has ls 3 [(0, .ref (ah 99)), (1, .int x1), (2, .int x2)] → W p l e rm_X4_followed s m ([.ref (ah 99)] : List Value).toArray below meth c H locs 0 0 (MQ below (va_Qi (S := zT) (fun (r : Int32) (u : zT) => Q r u) (fun u t => va_P D zCl ((fun (u : zT) => ((bX4 ah an am af ai aj al ag cy S) ++ ((bX3 an cy Sn) ++ ((bX1 ag cy u))))) u) t.heap) A) ([.ref (ah 99)] : List Value).toArray s 0 0 A) (F0 m 59 ls []) := by
        intro x1 x2 Sg h H locs hP hD hS ls hl
        obtain ⟨y59, ey59⟩ : ∃ z : Int32, z = (x2 + (1 : Int32)) := ⟨_, rfl⟩
        replace h := h y59 ey59
        refine lv_iinc (v := y59) (lv' := [(2, .int y59), (0, .ref (ah 99)), (1, .int x1)]) hx hb dX4_followed_59 hl (k := 2) rfl (by rw [ey59]; rfl) (by decide) rfl (fun ls hl => ?_)
        refine lv_goto (tgt := 15) hx hb dX4_followed_62 (by decide) ?_
        exact ih15 x1 y59 Sg h H locs hP hD hS ls (lv_sub hl [1, 2, 0] rfl)
      intro x1 x2 Sg h H locs hP hD hS ls hl
      refine lv_iload_n hx hb dX4_followed_15 rfl (lv_at hl 2 rfl) ?_
      refine lv_aload_n hx hb dX4_followed_16 rfl (lv_at hl 0 rfl) ?_
      refine va_get (D := D) (ci := 4) (v := .ref (an 99)) (C := RX4) (T := TX4) (N := 12) hx hb htB ziX4 hown hK hP 0 rfl rfl 0 (by decide) (htB _ zm_155) (fun _ h9 => h9) rfl dX4_followed_17 ?_
      refine va_getN (D := D) (ci := 3) (v := .int (Sn 2 0)) (C := RX3) (T := TX3) (N := 3) hx hb htB ziX3 hown hK hP 4 rfl rfl 2 (by decide) (va_Nw.use rfl (hN _ zm_164)) (fun _ h9 => h9) rfl dX4_followed_20 ?_
      refine lv_icmp_ge (tgt := 65) hx hb dX4_followed_23 (by decide) (fun c23 => ?_) (fun c23 => ?_)
      · replace h := And.left h c23
        refine lv_iload_n hx hb dX4_followed_65 rfl (lv_at hl 1 rfl) ?_
        exact W.iret (v := x1) hx hb hr (fun t ht hW => ⟨⟨_, Sg, rfl, h, zP_h ht hP⟩, hS.F ht⟩) hS.2.2 dX4_followed_66
      · replace h := And.right h c23
        refine lv_aload_n hx hb dX4_followed_26 rfl (lv_at hl 0 rfl) ?_
        refine va_get (D := D) (ci := 4) (v := .ref (an 99)) (C := RX4) (T := TX4) (N := 12) hx hb htB ziX4 hown hK hP 0 rfl rfl 0 (by decide) (htB _ zm_155) (fun _ h9 => h9) rfl dX4_followed_27 ?_
        refine lv_iload_n hx hb dX4_followed_30 rfl (lv_at hl 2 rfl) ?_
        refine lv_iconst (v := (0 : Int32)) hx hb dX4_followed_31 (by decide) ?_
        have hPc : va_P D zCl (bX3 an cy Sn) H := hP.sub [4, 5, 6] rfl
        refine zc_r (va_runV (As := [.int x2, .int (0 : Int32)]) (rest := []) ⟨hx, hb, hml, hown, htB⟩ (c_X3_of l D cy an Sn x2 (0 : Int32) h) (cwV 2 htB (zgV zm_157 zm_33 zm_34 zm_28 zm_32) rfl rfl rfl hd_X3_of ⟨Nat.le_of_ble_eq_true rfl, Nat.le_of_ble_eq_true rfl⟩) ⟨zR_blind, va_recv hK hP (ci := 3) (q0 := 4) rfl rfl, zR_pre hPc hK hN⟩ rfl rfl hl.1 rfl (lv_room (Nat.le_of_ble_eq_true rfl)) dX4_followed_32 ⟨Nat.zero_le _, Nat.zero_le _⟩) (fun r32 h => ?_)
        refine lv_iconst (v := (4 : Int32)) hx hb dX4_followed_35 (by decide) ?_
        refine lv_icmp_eq (tgt := 59) hx hb dX4_followed_36 (by decide) (fun c36 => ?_) (fun c36 => ?_)
        · replace h := And.left h c36
          exact L59 x1 x2 Sg h H locs hP hD hS ls (lv_sub hl [0, 1, 2] rfl)
        · replace h := And.right h c36
          refine lv_aload_n hx hb dX4_followed_39 rfl (lv_at hl 0 rfl) ?_
          refine va_get (D := D) (ci := 4) (v := .ref (ag 99)) (C := RX4) (T := TX4) (N := 12) hx hb htB ziX4 hown hK hP 0 rfl rfl 7 (by decide) (htB _ zm_165) (fun _ h9 => h9) rfl dX4_followed_40 ?_
          refine va_getN (D := D) (ci := 1) (v := .ref (ag 3)) (C := RX1) (T := TX1) (N := 11) hx hb htB ziX1 hown hK hP 7 rfl rfl 3 (by decide) (va_Nw.use rfl (hN _ zm_177)) (fun _ h9 => h9) rfl dX4_followed_43 ?_
          refine lv_iload_n hx hb dX4_followed_46 rfl (lv_at hl 2 rfl) ?_
          have hPc : va_P D zCl [((ag 3), .inl (cy, 8, .inl (Sg 3)))] H := hP.sub [11] rfl
          refine zc_r (va_runS (As := [.ref (ag 3), .int x2]) (rest := []) ⟨hx, hb, hml, hown, htB⟩ (c_X4_at l D cy (ag 3) 8 (Sg 3) x2 h) (cwS 2 htB (zgS zm_143 zm_14 zm_4 zm_13) rfl rfl rfl hd_X4_at ⟨Nat.le_of_ble_eq_true rfl, Nat.le_of_ble_eq_true rfl⟩) ⟨zR_blind, zR_pre hPc hK hN⟩ rfl rfl hl.1 rfl (lv_room (Nat.le_of_ble_eq_true rfl)) dX4_followed_47 ⟨Nat.zero_le _, Nat.zero_le _⟩) (fun r47 h => ?_)
          refine lv_if_ne (tgt := 59) hx hb dX4_followed_50 (by decide) (fun c50 => ?_) (fun c50 => ?_)
          · replace h := And.right h c50
            exact L59 x1 x2 Sg h H locs hP hD hS ls (lv_sub hl [0, 1, 2] rfl)
          · replace h := And.left h c50
            refine lv_iload_n hx hb dX4_followed_53 rfl (lv_at hl 1 rfl) ?_
            refine lv_iconst (v := (1 : Int32)) hx hb dX4_followed_54 (by decide) ?_
            refine lv_iload_n hx hb dX4_followed_55 rfl (lv_at hl 2 rfl) ?_
            refine lv_ishl hx hb dX4_followed_56 ?_
            refine lv_ior hx hb dX4_followed_57 ?_
            refine lv_topi (fun y58 ey58 => ?_)
            replace h := h y58 ey58
            refine lv_istore_n (lv' := [(1, .int y58), (0, .ref (ah 99)), (2, .int x2)]) hx hb dX4_followed_58 rfl hl (by decide) rfl (fun ls hl => ?_)
            exact L59 y58 x2 Sg h H locs hP hD hS ls (lv_sub hl [1, 0, 2] rfl)
  refine lv_aload_n hx hb dX4_followed_0 rfl (lv_at hl 0 rfl) ?_
  refine va_get (D := D) (ci := 4) (v := .ref (ag 99)) (C := RX4) (T := TX4) (N := 12) hx hb htB ziX4 hown hK hP 0 rfl rfl 7 (by decide) (htB _ zm_165) (fun _ h9 => h9) rfl dX4_followed_1 ?_
  refine lv_aload_n hx hb dX4_followed_4 rfl (lv_at hl 0 rfl) ?_
  refine va_get (D := D) (ci := 4) (v := .ref (an 99)) (C := RX4) (T := TX4) (N := 12) hx hb htB ziX4 hown hK hP 0 rfl rfl 0 (by decide) (htB _ zm_155) (fun _ h9 => h9) rfl dX4_followed_5 ?_
  have hPc : va_P D zCl ((bX1 ag cy Sg) ++ ((bX3 an cy Sn))) H := hP.sub [7, 8, 9, 10, 11, 12, 13, 14, 15, 16, 17, 4, 5, 6] rfl
  have hDc : va_D A ((bX1 ag cy Sg) ++ ((bX3 an cy Sn))) := hD.sub [7, 8, 9, 10, 11, 12, 13, 14, 15, 16, 17, 4, 5, 6] (by decide) rfl
  refine zc_v (ws' := fun u => ((bX4 ah an am af ai aj al ag cy S) ++ ((bX3 an cy Sn) ++ ((bX1 ag cy u))))) (va_runV (As := [.ref (an 99)]) (rest := []) ⟨hx, hb, hml, hown, htB⟩ (c_X1_run l D cy ag an H.size Sn Sg h) (cwV 1 htB (zgV zm_166 zm_168 zm_169 zm_57 zm_167) rfl rfl rfl hd_X1_run ⟨Nat.le_of_ble_eq_true rfl, Nat.le_of_ble_eq_true rfl⟩) ⟨zM_blind, va_recv hK hP (ci := 1) (q0 := 7) rfl rfl, zM_pre hPc hK hN hDc⟩ rfl rfl hl.1 rfl (lv_room (Nat.le_of_ble_eq_true rfl)) dX4_followed_8 ⟨Nat.zero_le _, Nat.zero_le _⟩) hS hA hP hD [7, 8, 9, 10, 11, 12, 13, 14, 15, 16, 17, 4, 5, 6] [0, 1, 2, 3] [0, 1, 2, 3, 15, 16, 17, 4, 5, 6, 7, 8, 9, 10, 11, 12, 13, 14] (by decide) rfl (by decide) (by decide) rfl (fun u => rfl) (fun u => rfl) (fun u => rfl) (fun u H locs h hP hD hS => ?_)
  obtain ⟨Sg_8, eu⟩ : ∃ z, z = u := ⟨_, rfl⟩
  subst eu
  replace hP : va_P D zCl ((bX4 ah an am af ai aj al ag cy S) ++ ((bX3 an cy Sn) ++ ((bX1 ag cy Sg_8)))) H := hP
  replace hD : va_D A ((bX4 ah an am af ai aj al ag cy S) ++ ((bX3 an cy Sn) ++ ((bX1 ag cy Sg_8)))) := hD
  refine lv_iconst (v := (0 : Int32)) hx hb dX4_followed_11 (by decide) ?_
  refine lv_istore_n (lv' := [(1, .int (0 : Int32)), (0, .ref (ah 99))]) hx hb dX4_followed_12 rfl hl (by decide) rfl (fun ls hl => ?_)
  refine lv_iconst (v := (0 : Int32)) hx hb dX4_followed_13 (by decide) ?_
  refine lv_istore_n (lv' := [(2, .int (0 : Int32)), (1, .int (0 : Int32)), (0, .ref (ah 99))]) hx hb dX4_followed_14 rfl hl (by decide) rfl (fun ls hl => ?_)
  obtain ⟨nn, h⟩ := h
  exact L15 nn (0 : Int32) (0 : Int32) Sg_8 h H locs hP hD hS ls (lv_sub hl [2, 1, 0] rfl)
set_option maxHeartbeats 4000000 in
set_option maxRecDepth 100000 in
theorem c_X4_porter (l : Launch) (D : va_G) (cy : ClassId) (ah : Nat → Nat) (an : Nat → Nat) (am : Nat → Nat) (af : Nat → Nat) (ai : Nat → Nat) (aj : Nat → Nat) (al : Nat → Nat) (ag : Nat → Nat) (sz : Nat) (S : zT) (Sn : zT) (Sm : zT) (Sg : zT) {Q : Int32 → zT → zT → Prop} (h : wp_X4_porter S Sn Sm Sg Q) : Met l yX4_porter w_X4_porter rm_X4_porter (va_Pc [.ref (ah 99)] (zM D cy ((bX4 ah an am af ai aj al ag cy S) ++ ((bX3 an cy Sn) ++ ((bX3 am cy Sm) ++ ((bX1 ag cy Sg))))) sz)) (va_Qi (S := zT × zT) (fun (r : Int32) (u : zT × zT) => Q r (u.1) (u.2)) (fun u t => va_P D zCl ((fun (u : zT × zT) => ((bX4 ah an am af ai aj al ag cy S) ++ ((bX3 an cy Sn) ++ ((bX3 am cy (u.1)) ++ ((bX1 ag cy (u.2))))))) u) t.heap) (va_A ((bX4 ah an am af ai aj al ag cy S) ++ ((bX3 an cy Sn) ++ ((bX3 am cy Sm) ++ ((bX1 ag cy Sg))))) sz)) 0 0 (va_A ((bX4 ah an am af ai aj al ag cy S) ++ ((bX3 an cy Sn) ++ ((bX3 am cy Sm) ++ ((bX1 ag cy Sg))))) sz) := by
  refine zOf_i (by decide) (Nat.le_of_ble_eq_true rfl) ?_
  intro p e s m below meth c ls A H locs hx hb hr hml hown htB hlocks hK hN hP hD hS hA hl
  replace hl : lv_has ls 1 [(0, .ref (ah 99))] := hl
  refine lv_aload_n hx hb dX4_porter_0 rfl (lv_at hl 0 rfl) ?_
  refine zc_vf (ws' := fun u => ((bX4 ah an am af ai aj al ag cy S) ++ ((bX3 an cy Sn) ++ ((bX3 am cy (u.1)) ++ ((bX1 ag cy (u.2))))))) (va_runV (As := []) (rest := []) ⟨hx, hb, hml, hown, htB⟩ (c_X4_runByNever l D cy ah an am af ai aj al ag H.size S Sn Sm Sg h) (cwV 0 htB (zgV zm_214 zm_216 zm_217 zm_4 zm_215) rfl rfl rfl hd_X4_runByNever ⟨Nat.le_of_ble_eq_true rfl, Nat.le_of_ble_eq_true rfl⟩) ⟨zM_blind, va_recv hK hP (ci := 4) (q0 := 0) rfl rfl, zM_pre hP hK hN hD⟩ rfl rfl hl.1 rfl (lv_room (Nat.le_of_ble_eq_true rfl)) dX4_porter_1 ⟨Nat.zero_le _, Nat.zero_le _⟩) hS hA hP hD (fun u => rfl) (fun u => rfl) (fun u H locs h hP hD hS => ?_)
  obtain ⟨Sm_1, Sg_1⟩ := u
  replace hP : va_P D zCl ((bX4 ah an am af ai aj al ag cy S) ++ ((bX3 an cy Sn) ++ ((bX3 am cy Sm_1) ++ ((bX1 ag cy Sg_1))))) H := hP
  replace hD : va_D A ((bX4 ah an am af ai aj al ag cy S) ++ ((bX3 an cy Sn) ++ ((bX3 am cy Sm_1) ++ ((bX1 ag cy Sg_1))))) := hD
  refine lv_aload_n hx hb dX4_porter_4 rfl (lv_at hl 0 rfl) ?_
  refine va_get (D := D) (ci := 4) (v := .ref (ag 99)) (C := RX4) (T := TX4) (N := 12) hx hb htB ziX4 hown hK hP 0 rfl rfl 7 (by decide) (htB _ zm_165) (fun _ h9 => h9) rfl dX4_porter_5 ?_
  have hPc : va_P D zCl (bX1 ag cy Sg_1) H := hP.sub [10, 11, 12, 13, 14, 15, 16, 17, 18, 19, 20] rfl
  refine zc_r (va_runV (As := []) (rest := []) ⟨hx, hb, hml, hown, htB⟩ (c_X1_lossOfAll l D cy ag Sg_1 h) (cwV 0 htB (zgV zm_181 zm_183 zm_184 zm_57 zm_182) rfl rfl rfl hd_X1_lossOfAll ⟨Nat.le_of_ble_eq_true rfl, Nat.le_of_ble_eq_true rfl⟩) ⟨zR_blind, va_recv hK hP (ci := 1) (q0 := 10) rfl rfl, zR_pre hPc hK hN⟩ rfl rfl hl.1 rfl (lv_room (Nat.le_of_ble_eq_true rfl)) dX4_porter_8 ⟨Nat.zero_le _, Nat.zero_le _⟩) (fun r8 h => ?_)
  exact W.iret (v := r8) hx hb hr (fun t ht hW => ⟨⟨_, (Sm_1, Sg_1), rfl, h, zP_h ht hP⟩, hS.F ht⟩) hS.2.2 dX4_porter_11
set_option maxHeartbeats 4000000 in
set_option maxRecDepth 100000 in
theorem c_X4_alone (l : Launch) (D : va_G) (cy : ClassId) (ah : Nat → Nat) (an : Nat → Nat) (am : Nat → Nat) (af : Nat → Nat) (ai : Nat → Nat) (aj : Nat → Nat) (al : Nat → Nat) (ag : Nat → Nat) (sz : Nat) (Sn : zT) (i1 : Int32) (S : zT) (Sm : zT) (Sg : zT) {Q : Int32 → zT → zT → zT → Prop} (h : wp_X4_alone Sn i1 S Sm Sg Q) : Met l yX4_alone w_X4_alone rm_X4_alone (va_Pc [.ref (ah 99), .int i1] (zM D cy ((bX4 ah an am af ai aj al ag cy S) ++ ((bX3 an cy Sn) ++ ((bX3 am cy Sm) ++ ((bX1 ag cy Sg))))) sz)) (va_Qi (S := zT × zT × zT) (fun (r : Int32) (u : zT × zT × zT) => Q r (u.1) (u.2.1) (u.2.2)) (fun u t => va_P D zCl ((fun (u : zT × zT × zT) => ((bX4 ah an am af ai aj al ag cy (u.1)) ++ ((bX3 an cy Sn) ++ ((bX3 am cy (u.2.1)) ++ ((bX1 ag cy (u.2.2))))))) u) t.heap) (va_A ((bX4 ah an am af ai aj al ag cy S) ++ ((bX3 an cy Sn) ++ ((bX3 am cy Sm) ++ ((bX1 ag cy Sg))))) sz)) 0 0 (va_A ((bX4 ah an am af ai aj al ag cy S) ++ ((bX3 an cy Sn) ++ ((bX3 am cy Sm) ++ ((bX1 ag cy Sg))))) sz) := by
  refine zOf_i (by decide) (Nat.le_of_ble_eq_true rfl) ?_
  intro p e s m below meth c ls A H locs hx hb hr hml hown htB hlocks hK hN hP hD hS hA hl
  replace hl : lv_has ls 2 [(0, .ref (ah 99)), (1, .int i1)] := hl
  refine lv_aload_n hx hb dX4_alone_0 rfl (lv_at hl 0 rfl) ?_
  refine va_get (D := D) (ci := 4) (v := .ref (an 99)) (C := RX4) (T := TX4) (N := 12) hx hb htB ziX4 hown hK hP 0 rfl rfl 0 (by decide) (htB _ zm_155) (fun _ h9 => h9) rfl dX4_alone_1 ?_
  refine lv_iload_n hx hb dX4_alone_4 rfl (lv_at hl 1 rfl) ?_
  have hPc : va_P D zCl (bX3 an cy Sn) H := hP.sub [4, 5, 6] rfl
  refine zc_r (va_runV (As := [.int i1]) (rest := []) ⟨hx, hb, hml, hown, htB⟩ (c_X3_has l D cy an Sn i1 h) (cwV 1 htB (zgV zm_156 zm_139 zm_140 zm_28 zm_138) rfl rfl rfl hd_X3_has ⟨Nat.le_of_ble_eq_true rfl, Nat.le_of_ble_eq_true rfl⟩) ⟨zR_blind, va_recv hK hP (ci := 3) (q0 := 4) rfl rfl, zR_pre hPc hK hN⟩ rfl rfl hl.1 rfl (lv_room (Nat.le_of_ble_eq_true rfl)) dX4_alone_5 ⟨Nat.zero_le _, Nat.zero_le _⟩) (fun r5 h => ?_)
  refine lv_if_ne (tgt := 17) hx hb dX4_alone_8 (by decide) (fun c8 => ?_) (fun c8 => ?_)
  · replace h := And.right h c8
    refine lv_aload_n hx hb dX4_alone_17 rfl (lv_at hl 0 rfl) ?_
    refine va_get (D := D) (ci := 4) (v := .ref (am 99)) (C := RX4) (T := TX4) (N := 12) hx hb htB ziX4 hown hK hP 0 rfl rfl 1 (by decide) (htB _ zm_204) (fun _ h9 => h9) rfl dX4_alone_18 ?_
    refine lv_aload_n hx hb dX4_alone_21 rfl (lv_at hl 0 rfl) ?_
    refine va_get (D := D) (ci := 4) (v := .ref (an 99)) (C := RX4) (T := TX4) (N := 12) hx hb htB ziX4 hown hK hP 0 rfl rfl 0 (by decide) (htB _ zm_155) (fun _ h9 => h9) rfl dX4_alone_22 ?_
    have hPc : va_P D zCl ((bX3 am cy Sm) ++ ((bX3 an cy Sn))) H := hP.sub [7, 8, 9, 4, 5, 6] rfl
    have hDc : va_D A ((bX3 am cy Sm) ++ ((bX3 an cy Sn))) := hD.sub [7, 8, 9, 4, 5, 6] (by decide) rfl
    refine zc_v (ws' := fun u => ((bX4 ah an am af ai aj al ag cy S) ++ ((bX3 an cy Sn) ++ ((bX3 am cy u) ++ ((bX1 ag cy Sg)))))) (va_runV (As := [.ref (an 99)]) (rest := []) ⟨hx, hb, hml, hown, htB⟩ (c_X3_become l D cy am an H.size Sn Sm h) (cwV 1 htB (zgV zm_205 zm_207 zm_208 zm_28 zm_206) rfl rfl rfl hd_X3_become ⟨Nat.le_of_ble_eq_true rfl, Nat.le_of_ble_eq_true rfl⟩) ⟨zM_blind, va_recv hK hP (ci := 3) (q0 := 7) rfl rfl, zM_pre hPc hK hN hDc⟩ rfl rfl hl.1 rfl (lv_room (Nat.le_of_ble_eq_true rfl)) dX4_alone_25 ⟨Nat.zero_le _, Nat.zero_le _⟩) hS hA hP hD [7, 8, 9, 4, 5, 6] [0, 1, 2, 3, 10, 11, 12, 13, 14, 15, 16, 17, 18, 19, 20] [0, 1, 2, 3, 18, 19, 20, 15, 16, 17, 4, 5, 6, 7, 8, 9, 10, 11, 12, 13, 14] (by decide) rfl (by decide) (by decide) rfl (fun u => rfl) (fun u => rfl) (fun u => rfl) (fun u H locs h hP hD hS => ?_)
    obtain ⟨Sm_25, eu⟩ : ∃ z, z = u := ⟨_, rfl⟩
    subst eu
    replace hP : va_P D zCl ((bX4 ah an am af ai aj al ag cy S) ++ ((bX3 an cy Sn) ++ ((bX3 am cy Sm_25) ++ ((bX1 ag cy Sg))))) H := hP
    replace hD : va_D A ((bX4 ah an am af ai aj al ag cy S) ++ ((bX3 an cy Sn) ++ ((bX3 am cy Sm_25) ++ ((bX1 ag cy Sg))))) := hD
    refine lv_aload_n hx hb dX4_alone_28 rfl (lv_at hl 0 rfl) ?_
    refine va_get (D := D) (ci := 4) (v := .ref (am 99)) (C := RX4) (T := TX4) (N := 12) hx hb htB ziX4 hown hK hP 0 rfl rfl 1 (by decide) (htB _ zm_204) (fun _ h9 => h9) rfl dX4_alone_29 ?_
    refine lv_iload_n hx hb dX4_alone_32 rfl (lv_at hl 1 rfl) ?_
    have hPc : va_P D zCl (bX3 am cy Sm_25) H := hP.sub [7, 8, 9] rfl
    have hDc : va_D A (bX3 am cy Sm_25) := hD.sub [7, 8, 9] (by decide) rfl
    refine zc_v (ws' := fun u => ((bX4 ah an am af ai aj al ag cy S) ++ ((bX3 an cy Sn) ++ ((bX3 am cy u) ++ ((bX1 ag cy Sg)))))) (va_runV (As := [.int i1]) (rest := []) ⟨hx, hb, hml, hown, htB⟩ (c_X3_leaveOut l D cy am H.size i1 Sm_25 h) (cwV 1 htB (zgV zm_218 zm_220 zm_221 zm_28 zm_219) rfl rfl rfl hd_X3_leaveOut ⟨Nat.le_of_ble_eq_true rfl, Nat.le_of_ble_eq_true rfl⟩) ⟨zM_blind, va_recv hK hP (ci := 3) (q0 := 7) rfl rfl, zM_pre hPc hK hN hDc⟩ rfl rfl hl.1 rfl (lv_room (Nat.le_of_ble_eq_true rfl)) dX4_alone_33 ⟨Nat.zero_le _, Nat.zero_le _⟩) hS hA hP hD [7, 8, 9] [0, 1, 2, 3, 4, 5, 6, 10, 11, 12, 13, 14, 15, 16, 17, 18, 19, 20] [0, 1, 2, 3, 4, 5, 6, 18, 19, 20, 7, 8, 9, 10, 11, 12, 13, 14, 15, 16, 17] (by decide) rfl (by decide) (by decide) rfl (fun u => rfl) (fun u => rfl) (fun u => rfl) (fun u H locs h hP hD hS => ?_)
    obtain ⟨Sm_33, eu⟩ : ∃ z, z = u := ⟨_, rfl⟩
    subst eu
    replace hP : va_P D zCl ((bX4 ah an am af ai aj al ag cy S) ++ ((bX3 an cy Sn) ++ ((bX3 am cy Sm_33) ++ ((bX1 ag cy Sg))))) H := hP
    replace hD : va_D A ((bX4 ah an am af ai aj al ag cy S) ++ ((bX3 an cy Sn) ++ ((bX3 am cy Sm_33) ++ ((bX1 ag cy Sg))))) := hD
    refine lv_aload_n hx hb dX4_alone_36 rfl (lv_at hl 0 rfl) ?_
    refine lv_aload_n hx hb dX4_alone_37 rfl (lv_at hl 0 rfl) ?_
    refine va_get (D := D) (ci := 4) (v := .ref (am 99)) (C := RX4) (T := TX4) (N := 12) hx hb htB ziX4 hown hK hP 0 rfl rfl 1 (by decide) (htB _ zm_204) (fun _ h9 => h9) rfl dX4_alone_38 ?_
    have hPc : va_P D zCl ((bX4 ah an am af ai aj al ag cy S) ++ ((bX1 ag cy Sg) ++ ((bX3 am cy Sm_33)))) H := hP.sub [0, 1, 2, 3, 10, 11, 12, 13, 14, 15, 16, 17, 18, 19, 20, 7, 8, 9] rfl
    have hDc : va_D A ((bX4 ah an am af ai aj al ag cy S) ++ ((bX1 ag cy Sg) ++ ((bX3 am cy Sm_33)))) := hD.sub [0, 1, 2, 3, 10, 11, 12, 13, 14, 15, 16, 17, 18, 19, 20, 7, 8, 9] (by decide) rfl
    refine zc_i (ws' := fun u => ((bX4 ah an am af ai aj al ag cy S) ++ ((bX3 an cy Sn) ++ ((bX3 am cy Sm_33) ++ ((bX1 ag cy u)))))) (va_runV (As := [.ref (am 99)]) (rest := []) ⟨hx, hb, hml, hown, htB⟩ (c_X4_allLoss l D cy ah an am af ai aj al ag am H.size S Sm_33 Sg h) (cwV 1 htB (zgV zm_186 zm_188 zm_189 zm_4 zm_187) rfl rfl rfl hd_X4_allLoss ⟨Nat.le_of_ble_eq_true rfl, Nat.le_of_ble_eq_true rfl⟩) ⟨zM_blind, va_recv hK hP (ci := 4) (q0 := 0) rfl rfl, zM_pre hPc hK hN hDc⟩ rfl rfl hl.1 rfl (lv_room (Nat.le_of_ble_eq_true rfl)) dX4_alone_41 ⟨Nat.zero_le _, Nat.zero_le _⟩) hS hA hP hD [0, 1, 2, 3, 10, 11, 12, 13, 14, 15, 16, 17, 18, 19, 20, 7, 8, 9] [4, 5, 6] [3, 4, 5, 6, 0, 1, 2, 18, 19, 20, 7, 8, 9, 10, 11, 12, 13, 14, 15, 16, 17] (by decide) rfl (by decide) (by decide) rfl (fun u => rfl) (fun u => rfl) (fun u => rfl) (fun r41 u H locs h hP hD hS => ?_)
    obtain ⟨Sg_41, eu⟩ : ∃ z, z = u := ⟨_, rfl⟩
    subst eu
    replace hP : va_P D zCl ((bX4 ah an am af ai aj al ag cy S) ++ ((bX3 an cy Sn) ++ ((bX3 am cy Sm_33) ++ ((bX1 ag cy Sg_41))))) H := hP
    replace hD : va_D A ((bX4 ah an am af ai aj al ag cy S) ++ ((bX3 an cy Sn) ++ ((bX3 am cy Sm_33) ++ ((bX1 ag cy Sg_41))))) := hD
    exact W.iret (v := r41) hx hb hr (fun t ht hW => ⟨⟨_, (S, Sm_33, Sg_41), rfl, h, zP_h ht hP⟩, hS.F ht⟩) hS.2.2 dX4_alone_44
  · replace h := And.left h c8
    refine lv_aload_n hx hb dX4_alone_11 rfl (lv_at hl 0 rfl) ?_
    refine lv_iconst (v := (-1 : Int32)) hx hb dX4_alone_12 (by decide) ?_
    have hPc : va_P D zCl (bX4 ah an am af ai aj al ag cy S) H := hP.sub [0, 1, 2, 3] rfl
    have hDc : va_D A (bX4 ah an am af ai aj al ag cy S) := hD.sub [0, 1, 2, 3] (by decide) rfl
    refine zc_i (ws' := fun u => ((bX4 ah an am af ai aj al ag cy u) ++ ((bX3 an cy Sn) ++ ((bX3 am cy Sm) ++ ((bX1 ag cy Sg)))))) (va_runV (As := [.int (-1 : Int32)]) (rest := []) ⟨hx, hb, hml, hown, htB⟩ (c_X4_refuse l D cy ah an am af ai aj al ag H.size (-1 : Int32) S h) (cwV 1 htB (zgV zm_145 zm_147 zm_148 zm_4 zm_146) rfl rfl rfl hd_X4_refuse ⟨Nat.le_of_ble_eq_true rfl, Nat.le_of_ble_eq_true rfl⟩) ⟨zM_blind, va_recv hK hP (ci := 4) (q0 := 0) rfl rfl, zM_pre hPc hK hN hDc⟩ rfl rfl hl.1 rfl (lv_room (Nat.le_of_ble_eq_true rfl)) dX4_alone_13 ⟨Nat.zero_le _, Nat.zero_le _⟩) hS hA hP hD [0, 1, 2, 3] [4, 5, 6, 7, 8, 9, 10, 11, 12, 13, 14, 15, 16, 17, 18, 19, 20] [17, 18, 19, 20, 0, 1, 2, 3, 4, 5, 6, 7, 8, 9, 10, 11, 12, 13, 14, 15, 16] (by decide) rfl (by decide) (by decide) rfl (fun u => rfl) (fun u => rfl) (fun u => rfl) (fun r13 u H locs h hP hD hS => ?_)
    obtain ⟨S_13, eu⟩ : ∃ z, z = u := ⟨_, rfl⟩
    subst eu
    replace hP : va_P D zCl ((bX4 ah an am af ai aj al ag cy S_13) ++ ((bX3 an cy Sn) ++ ((bX3 am cy Sm) ++ ((bX1 ag cy Sg))))) H := hP
    replace hD : va_D A ((bX4 ah an am af ai aj al ag cy S_13) ++ ((bX3 an cy Sn) ++ ((bX3 am cy Sm) ++ ((bX1 ag cy Sg))))) := hD
    exact W.iret (v := r13) hx hb hr (fun t ht hW => ⟨⟨_, (S_13, Sm, Sg), rfl, h, zP_h ht hP⟩, hS.F ht⟩) hS.2.2 dX4_alone_16
set_option maxHeartbeats 4000000 in
set_option maxRecDepth 100000 in
theorem c_X4_refusalOfFilm (l : Launch) (D : va_G) (cy : ClassId) (ah : Nat → Nat) (an : Nat → Nat) (am : Nat → Nat) (af : Nat → Nat) (ai : Nat → Nat) (aj : Nat → Nat) (al : Nat → Nat) (ag : Nat → Nat) (S : zT) (Sf : zT) (i1 : Int32) (i2 : Int32) (i3 : Int32) {Q : Int32 → Prop} (h : wp_X4_refusalOfFilm S Sf i1 i2 i3 Q) : Met l yX4_refusalOfFilm w_X4_refusalOfFilm rm_X4_refusalOfFilm (va_Pc [.ref (ah 99), .int i1, .int i2, .int i3] (zR D cy ((bX4 ah an am af ai aj al ag cy S) ++ ((bX0 af cy Sf))))) (vp_Si Q) 0 0 (fun _ => False) := by
  refine zOf_r (by decide) (Nat.le_of_ble_eq_true rfl) ?_
  intro p e s m below meth c ls hx hb hr hml hown htB hlocks hK hN hP hl
  replace hl : lv_has ls 4 [(0, .ref (ah 99)), (1, .int i1), (2, .int i2), (3, .int i3)] := hl
  refine lv_iload_n hx hb dX4_refusalOfFilm_0 rfl (lv_at hl 1 rfl) ?_
  refine lv_iconst (v := (1 : Int32)) hx hb dX4_refusalOfFilm_1 (by decide) ?_
  refine lv_icmp_lt (tgt := 9) hx hb dX4_refusalOfFilm_2 (by decide) (fun c2 => ?_) (fun c2 => ?_)
  · replace h := And.left h c2
    refine lv_bipush (v := (-4 : Int32)) hx hb dX4_refusalOfFilm_9 (by decide) ?_
    exact W.iret (v := (-4 : Int32)) hx hb hr (fun t ht hW => ⟨_, rfl, h, ht⟩) (fun q hq => by cases hq) dX4_refusalOfFilm_11
  · replace h := And.right h c2
    refine lv_iload_n hx hb dX4_refusalOfFilm_5 rfl (lv_at hl 2 rfl) ?_
    refine lv_if_ge (tgt := 12) hx hb dX4_refusalOfFilm_6 (by decide) (fun c6 => ?_) (fun c6 => ?_)
    · replace h := And.left h c6
      refine lv_iload_n hx hb dX4_refusalOfFilm_12 rfl (lv_at hl 1 rfl) ?_
      refine lv_bipush (v := (40 : Int32)) hx hb dX4_refusalOfFilm_13 (by decide) ?_
      refine lv_icmp_gt (tgt := 23) hx hb dX4_refusalOfFilm_15 (by decide) (fun c15 => ?_) (fun c15 => ?_)
      · replace h := And.left h c15
        refine lv_bipush (v := (-6 : Int32)) hx hb dX4_refusalOfFilm_23 (by decide) ?_
        exact W.iret (v := (-6 : Int32)) hx hb hr (fun t ht hW => ⟨_, rfl, h, ht⟩) (fun q hq => by cases hq) dX4_refusalOfFilm_25
      · replace h := And.right h c15
        refine lv_iload_n hx hb dX4_refusalOfFilm_18 rfl (lv_at hl 2 rfl) ?_
        refine lv_iconst (v := (2 : Int32)) hx hb dX4_refusalOfFilm_19 (by decide) ?_
        refine lv_icmp_le (tgt := 26) hx hb dX4_refusalOfFilm_20 (by decide) (fun c20 => ?_) (fun c20 => ?_)
        · replace h := And.left h c20
          refine lv_iload_n hx hb dX4_refusalOfFilm_26 rfl (lv_at hl 3 rfl) ?_
          refine lv_if_ne (tgt := 33) hx hb dX4_refusalOfFilm_27 (by decide) (fun c27 => ?_) (fun c27 => ?_)
          · replace h := And.right h c27
            refine lv_aload_n hx hb dX4_refusalOfFilm_33 rfl (lv_at hl 0 rfl) ?_
            refine va_get (D := D) (ci := 4) (v := .ref (af 99)) (C := RX4) (T := TX4) (N := 12) hx hb htB ziX4 hown hK hP 0 rfl rfl 2 (by decide) (htB _ zm_222) (fun _ h9 => h9) rfl dX4_refusalOfFilm_34 ?_
            refine va_getN (D := D) (ci := 0) (v := .int (Sf 4 0)) (C := RX0) (T := TX0) (N := 5) hx hb htB ziX0 hown hK hP 4 rfl rfl 4 (by decide) (va_Nw.use rfl (hN _ zm_223)) (fun _ h9 => h9) rfl dX4_refusalOfFilm_37 ?_
            refine lv_bipush (v := (10 : Int32)) hx hb dX4_refusalOfFilm_40 (by decide) ?_
            refine lv_icmp_lt (tgt := 50) hx hb dX4_refusalOfFilm_42 (by decide) (fun c42 => ?_) (fun c42 => ?_)
            · replace h := And.left h c42
              refine lv_iconst (v := (0 : Int32)) hx hb dX4_refusalOfFilm_50 (by decide) ?_
              exact W.iret (v := (0 : Int32)) hx hb hr (fun t ht hW => ⟨_, rfl, h, ht⟩) (fun q hq => by cases hq) dX4_refusalOfFilm_51
            · replace h := And.right h c42
              refine lv_bipush (v := (-6 : Int32)) hx hb dX4_refusalOfFilm_45 (by decide) ?_
              refine lv_goto (tgt := 51) hx hb dX4_refusalOfFilm_47 (by decide) ?_
              exact W.iret (v := (-6 : Int32)) hx hb hr (fun t ht hW => ⟨_, rfl, h, ht⟩) (fun q hq => by cases hq) dX4_refusalOfFilm_51
          · replace h := And.left h c27
            refine lv_bipush (v := (-2 : Int32)) hx hb dX4_refusalOfFilm_30 (by decide) ?_
            exact W.iret (v := (-2 : Int32)) hx hb hr (fun t ht hW => ⟨_, rfl, h, ht⟩) (fun q hq => by cases hq) dX4_refusalOfFilm_32
        · replace h := And.right h c20
          refine lv_bipush (v := (-6 : Int32)) hx hb dX4_refusalOfFilm_23 (by decide) ?_
          exact W.iret (v := (-6 : Int32)) hx hb hr (fun t ht hW => ⟨_, rfl, h, ht⟩) (fun q hq => by cases hq) dX4_refusalOfFilm_25
    · replace h := And.right h c6
      refine lv_bipush (v := (-4 : Int32)) hx hb dX4_refusalOfFilm_9 (by decide) ?_
      exact W.iret (v := (-4 : Int32)) hx hb hr (fun t ht hW => ⟨_, rfl, h, ht⟩) (fun q hq => by cases hq) dX4_refusalOfFilm_11
set_option maxHeartbeats 4000000 in
set_option maxRecDepth 100000 in
theorem c_X4_film (l : Launch) (D : va_G) (cy : ClassId) (ah : Nat → Nat) (an : Nat → Nat) (am : Nat → Nat) (af : Nat → Nat) (ai : Nat → Nat) (aj : Nat → Nat) (al : Nat → Nat) (ag : Nat → Nat) (sz : Nat) (i1 : Int32) (i2 : Int32) (i3 : Int32) (i4 : Int32) (S : zT) (Sf : zT) {Q : Int32 → zT → zT → Prop} (h : wp_X4_film i1 i2 i3 i4 S Sf Q) : Met l yX4_film w_X4_film rm_X4_film (va_Pc [.ref (ah 99), .int i1, .int i2, .int i3, .int i4] (zM D cy ((bX4 ah an am af ai aj al ag cy S) ++ ((bX0 af cy Sf))) sz)) (va_Qi (S := zT × zT) (fun (r : Int32) (u : zT × zT) => Q r (u.1) (u.2)) (fun u t => va_P D zCl ((fun (u : zT × zT) => ((bX4 ah an am af ai aj al ag cy (u.1)) ++ ((bX0 af cy (u.2))))) u) t.heap) (va_A ((bX4 ah an am af ai aj al ag cy S) ++ ((bX0 af cy Sf))) sz)) 0 0 (va_A ((bX4 ah an am af ai aj al ag cy S) ++ ((bX0 af cy Sf))) sz) := by
  refine zOf_i (by decide) (Nat.le_of_ble_eq_true rfl) ?_
  intro p e s m below meth c ls A H locs hx hb hr hml hown htB hlocks hK hN hP hD hS hA hl
  replace hl : lv_has ls 6 [(0, .ref (ah 99)), (1, .int i1), (2, .int i2), (3, .int i3), (4, .int i4)] := hl
  have L23 : ∀ (t1 : Int32) (t2 : Int32) (t3 : Int32) (S : zT) (Sf : zT), wpb_X4_film_23 i1 i2 i3 i4 Q t1 t2 t3 S Sf → ∀ (H : Heap) (locs : List Loc), va_P D zCl ((bX4 ah an am af ai aj al ag cy S) ++ ((bX0 af cy Sf))) H → va_D A ((bX4 ah an am af ai aj al ag cy S) ++ ((bX0 af cy Sf))) → va_S A s.heap H locs → ∀ ls : Array Slot, lv_has ls 6 [(0, .ref (ah 99)), (1, .int i1), (2, .int i2), (3, .int i3), (4, .int i4)] → W p l e rm_X4_film s m ([.ref (ah 99), .int i1, .int i2, .int i3, .int i4] : List Value).toArray below meth c H locs 0 0 (MQ below (va_Qi (S := zT × zT) (fun (r : Int32) (u : zT × zT) => Q r (u.1) (u.2)) (fun u t => va_P D zCl ((fun (u : zT × zT) => ((bX4 ah an am af ai aj al ag cy (u.1)) ++ ((bX0 af cy (u.2))))) u) t.heap) A) ([.ref (ah 99), .int i1, .int i2, .int i3, .int i4] : List Value).toArray s 0 0 A) (F0 m 23 ls [.int t3, .int t2, .int t1, .ref (ah 99)]) := by
    intro t1 t2 t3 S Sf h H locs hP hD hS ls hl
    refine zc_r (va_runV (As := [.int t1, .int t2, .int t3]) (rest := []) ⟨hx, hb, hml, hown, htB⟩ (c_X4_refusalOfFilm l D cy ah an am af ai aj al ag S Sf t1 t2 t3 h) (cwV 3 htB (zgV zm_224 zm_226 zm_227 zm_4 zm_225) rfl rfl rfl hd_X4_refusalOfFilm ⟨Nat.le_of_ble_eq_true rfl, Nat.le_of_ble_eq_true rfl⟩) ⟨zR_blind, va_recv hK hP (ci := 4) (q0 := 0) rfl rfl, zR_pre hP hK hN⟩ rfl rfl hl.1 rfl (lv_room (Nat.le_of_ble_eq_true rfl)) dX4_film_23 ⟨Nat.zero_le _, Nat.zero_le _⟩) (fun r23 h => ?_)
    refine lv_istore (lv' := [(5, .int r23), (0, .ref (ah 99)), (1, .int i1), (2, .int i2), (3, .int i3), (4, .int i4)]) hx hb dX4_film_26 hl (by decide) rfl (fun ls hl => ?_)
    refine lv_iload hx hb dX4_film_28 (lv_at hl 0 rfl) ?_
    refine lv_if_eq (tgt := 40) hx hb dX4_film_30 (by decide) (fun c30 => ?_) (fun c30 => ?_)
    · replace h := And.left h c30
      refine lv_aload_n hx hb dX4_film_40 rfl (lv_at hl 1 rfl) ?_
      refine va_get (D := D) (ci := 4) (v := .ref (af 99)) (C := RX4) (T := TX4) (N := 12) hx hb htB ziX4 hown hK hP 0 rfl rfl 2 (by decide) (htB _ zm_222) (fun _ h9 => h9) rfl dX4_film_41 ?_
      refine lv_iload_n hx hb dX4_film_44 rfl (lv_at hl 2 rfl) ?_
      refine lv_iload_n hx hb dX4_film_45 rfl (lv_at hl 3 rfl) ?_
      refine lv_iload_n hx hb dX4_film_46 rfl (lv_at hl 4 rfl) ?_
      refine lv_iload hx hb dX4_film_47 (lv_at hl 5 rfl) ?_
      have hPc : va_P D zCl (bX0 af cy Sf) H := hP.sub [4, 5, 6, 7, 8] rfl
      have hDc : va_D A (bX0 af cy Sf) := hD.sub [4, 5, 6, 7, 8] (by decide) rfl
      refine zc_v (ws' := fun u => ((bX4 ah an am af ai aj al ag cy S) ++ ((bX0 af cy u)))) (va_runV (As := [.int i1, .int i2, .int i3, .int i4]) (rest := []) ⟨hx, hb, hml, hown, htB⟩ (c_X0_add l D cy af H.size i1 i2 i3 i4 Sf h) (cwV 4 htB (zgV zm_228 zm_231 zm_232 zm_230 zm_229) rfl rfl rfl hd_X0_add ⟨Nat.le_of_ble_eq_true rfl, Nat.le_of_ble_eq_true rfl⟩) ⟨zM_blind, va_recv hK hP (ci := 0) (q0 := 4) rfl rfl, zM_pre hPc hK hN hDc⟩ rfl rfl hl.1 rfl (lv_room (Nat.le_of_ble_eq_true rfl)) dX4_film_49 ⟨Nat.zero_le _, Nat.zero_le _⟩) hS hA hP hD [4, 5, 6, 7, 8] [0, 1, 2, 3] [0, 1, 2, 3, 4, 5, 6, 7, 8] (by decide) rfl (by decide) (by decide) rfl (fun u => rfl) (fun u => rfl) (fun u => rfl) (fun u H locs h hP hD hS => ?_)
      obtain ⟨Sf_49, eu⟩ : ∃ z, z = u := ⟨_, rfl⟩
      subst eu
      replace hP : va_P D zCl ((bX4 ah an am af ai aj al ag cy S) ++ ((bX0 af cy Sf_49))) H := hP
      replace hD : va_D A ((bX4 ah an am af ai aj al ag cy S) ++ ((bX0 af cy Sf_49))) := hD
      refine lv_aload_n hx hb dX4_film_52 rfl (lv_at hl 1 rfl) ?_
      refine va_get (D := D) (ci := 4) (v := .ref (af 99)) (C := RX4) (T := TX4) (N := 12) hx hb htB ziX4 hown hK hP 0 rfl rfl 2 (by decide) (htB _ zm_222) (fun _ h9 => h9) rfl dX4_film_53 ?_
      refine va_getN (D := D) (ci := 0) (v := .int (Sf_49 4 0)) (C := RX0) (T := TX0) (N := 5) hx hb htB ziX0 hown hK hP 4 rfl rfl 4 (by decide) (va_Nw.use rfl (hN _ zm_223)) (fun _ h9 => h9) rfl dX4_film_56 ?_
      exact W.iret (v := (Sf_49 4 0)) hx hb hr (fun t ht hW => ⟨⟨_, (S, Sf_49), rfl, h, zP_h ht hP⟩, hS.F ht⟩) hS.2.2 dX4_film_59
    · replace h := And.right h c30
      refine lv_aload_n hx hb dX4_film_33 rfl (lv_at hl 1 rfl) ?_
      refine lv_iload hx hb dX4_film_34 (lv_at hl 0 rfl) ?_
      have hPc : va_P D zCl (bX4 ah an am af ai aj al ag cy S) H := hP.sub [0, 1, 2, 3] rfl
      have hDc : va_D A (bX4 ah an am af ai aj al ag cy S) := hD.sub [0, 1, 2, 3] (by decide) rfl
      refine zc_i (ws' := fun u => ((bX4 ah an am af ai aj al ag cy u) ++ ((bX0 af cy Sf)))) (va_runV (As := [.int r23]) (rest := []) ⟨hx, hb, hml, hown, htB⟩ (c_X4_refuse l D cy ah an am af ai aj al ag H.size r23 S h) (cwV 1 htB (zgV zm_145 zm_147 zm_148 zm_4 zm_146) rfl rfl rfl hd_X4_refuse ⟨Nat.le_of_ble_eq_true rfl, Nat.le_of_ble_eq_true rfl⟩) ⟨zM_blind, va_recv hK hP (ci := 4) (q0 := 0) rfl rfl, zM_pre hPc hK hN hDc⟩ rfl rfl hl.1 rfl (lv_room (Nat.le_of_ble_eq_true rfl)) dX4_film_36 ⟨Nat.zero_le _, Nat.zero_le _⟩) hS hA hP hD [0, 1, 2, 3] [4, 5, 6, 7, 8] [5, 6, 7, 8, 0, 1, 2, 3, 4] (by decide) rfl (by decide) (by decide) rfl (fun u => rfl) (fun u => rfl) (fun u => rfl) (fun r36 u H locs h hP hD hS => ?_)
      obtain ⟨S_36, eu⟩ : ∃ z, z = u := ⟨_, rfl⟩
      subst eu
      replace hP : va_P D zCl ((bX4 ah an am af ai aj al ag cy S_36) ++ ((bX0 af cy Sf))) H := hP
      replace hD : va_D A ((bX4 ah an am af ai aj al ag cy S_36) ++ ((bX0 af cy Sf))) := hD
      exact W.iret (v := r36) hx hb hr (fun t ht hW => ⟨⟨_, (S_36, Sf), rfl, h, zP_h ht hP⟩, hS.F ht⟩) hS.2.2 dX4_film_39
  have L22 : ∀ (t1 : Int32) (t2 : Int32) (S : zT) (Sf : zT), wpb_X4_film_22 i1 i2 i3 i4 Q t1 t2 S Sf → ∀ (H : Heap) (locs : List Loc), va_P D zCl ((bX4 ah an am af ai aj al ag cy S) ++ ((bX0 af cy Sf))) H → va_D A ((bX4 ah an am af ai aj al ag cy S) ++ ((bX0 af cy Sf))) → va_S A s.heap H locs → ∀ ls : Array Slot, lv_has ls 6 [(0, .ref (ah 99)), (1, .int i1), (2, .int i2), (3, .int i3), (4, .int i4)] → W p l e rm_X4_film s m ([.ref (ah 99), .int i1, .int i2, .int i3, .int i4] : List Value).toArray below meth c H locs 0 0 (MQ below (va_Qi (S := zT × zT) (fun (r : Int32) (u : zT × zT) => Q r (u.1) (u.2)) (fun u t => va_P D zCl ((fun (u : zT × zT) => ((bX4 ah an am af ai aj al ag cy (u.1)) ++ ((bX0 af cy (u.2))))) u) t.heap) A) ([.ref (ah 99), .int i1, .int i2, .int i3, .int i4] : List Value).toArray s 0 0 A) (F0 m 22 ls [.int t2, .int t1, .ref (ah 99)]) := by
    intro t1 t2 S Sf h H locs hP hD hS ls hl
    refine lv_iconst (v := (0 : Int32)) hx hb dX4_film_22 (by decide) ?_
    exact L23 t1 t2 (0 : Int32) S Sf h H locs hP hD hS ls (lv_sub hl [0, 1, 2, 3, 4] rfl)
  refine lv_aload_n hx hb dX4_film_0 rfl (lv_at hl 0 rfl) ?_
  refine lv_iload_n hx hb dX4_film_1 rfl (lv_at hl 1 rfl) ?_
  refine lv_iload_n hx hb dX4_film_2 rfl (lv_at hl 3 rfl) ?_
  refine lv_iload_n hx hb dX4_film_3 rfl (lv_at hl 2 rfl) ?_
  have hPc : va_P D zCl ([] : va_W) H := hP.sub [] rfl
  refine zc_r (va_runS (As := [.int i2]) (rest := [.int i3, .int i1, .ref (ah 99)]) ⟨hx, hb, hml, hown, htB⟩ (c_X4_isBit l D cy  i2 h) (cwS 1 htB (zgS zm_162 zm_118 zm_4 zm_117) rfl rfl rfl hd_X4_isBit ⟨Nat.le_of_ble_eq_true rfl, Nat.le_of_ble_eq_true rfl⟩) ⟨zR_blind, zR_pre hPc hK hN⟩ rfl rfl hl.1 rfl (lv_room (Nat.le_of_ble_eq_true rfl)) dX4_film_4 ⟨Nat.zero_le _, Nat.zero_le _⟩) (fun r4 h => ?_)
  refine lv_if_eq (tgt := 22) hx hb dX4_film_7 (by decide) (fun c7 => ?_) (fun c7 => ?_)
  · replace h := And.left h c7
    exact L22 i1 i3 S Sf h H locs hP hD hS ls (lv_sub hl [0, 1, 2, 3, 4] rfl)
  · replace h := And.right h c7
    refine lv_iload hx hb dX4_film_10 (lv_at hl 4 rfl) ?_
    have hPc : va_P D zCl ([] : va_W) H := hP.sub [] rfl
    refine zc_r (va_runS (As := [.int i4]) (rest := [.int i3, .int i1, .ref (ah 99)]) ⟨hx, hb, hml, hown, htB⟩ (c_X4_isBit l D cy  i4 h) (cwS 1 htB (zgS zm_162 zm_118 zm_4 zm_117) rfl rfl rfl hd_X4_isBit ⟨Nat.le_of_ble_eq_true rfl, Nat.le_of_ble_eq_true rfl⟩) ⟨zR_blind, zR_pre hPc hK hN⟩ rfl rfl hl.1 rfl (lv_room (Nat.le_of_ble_eq_true rfl)) dX4_film_12 ⟨Nat.zero_le _, Nat.zero_le _⟩) (fun r12 h => ?_)
    refine lv_if_eq (tgt := 22) hx hb dX4_film_15 (by decide) (fun c15 => ?_) (fun c15 => ?_)
    · replace h := And.left h c15
      exact L22 i1 i3 S Sf h H locs hP hD hS ls (lv_sub hl [0, 1, 2, 3, 4] rfl)
    · replace h := And.right h c15
      refine lv_iconst (v := (1 : Int32)) hx hb dX4_film_18 (by decide) ?_
      refine lv_goto (tgt := 23) hx hb dX4_film_19 (by decide) ?_
      exact L23 i1 i3 (1 : Int32) S Sf h H locs hP hD hS ls (lv_sub hl [0, 1, 2, 3, 4] rfl)
set_option maxHeartbeats 4000000 in
set_option maxRecDepth 100000 in
theorem c_X4_told (l : Launch) (D : va_G) (cy : ClassId) (ah : Nat → Nat) (an : Nat → Nat) (am : Nat → Nat) (af : Nat → Nat) (ai : Nat → Nat) (aj : Nat → Nat) (al : Nat → Nat) (ag : Nat → Nat) (sz : Nat) (Sn : zT) (i1 : Int32) (i2 : Int32) (i3 : Int32) (S : zT) (Sf : zT) {Q : Int32 → zT → zT → Prop} (h : wp_X4_told Sn i1 i2 i3 S Sf Q) : Met l yX4_told w_X4_told rm_X4_told (va_Pc [.ref (ah 99), .int i1, .int i2, .int i3] (zM D cy ((bX4 ah an am af ai aj al ag cy S) ++ ((bX3 an cy Sn) ++ ((bX0 af cy Sf)))) sz)) (va_Qi (S := zT × zT) (fun (r : Int32) (u : zT × zT) => Q r (u.1) (u.2)) (fun u t => va_P D zCl ((fun (u : zT × zT) => ((bX4 ah an am af ai aj al ag cy (u.1)) ++ ((bX3 an cy Sn) ++ ((bX0 af cy (u.2)))))) u) t.heap) (va_A ((bX4 ah an am af ai aj al ag cy S) ++ ((bX3 an cy Sn) ++ ((bX0 af cy Sf)))) sz)) 0 0 (va_A ((bX4 ah an am af ai aj al ag cy S) ++ ((bX3 an cy Sn) ++ ((bX0 af cy Sf)))) sz) := by
  refine zOf_i (by decide) (Nat.le_of_ble_eq_true rfl) ?_
  intro p e s m below meth c ls A H locs hx hb hr hml hown htB hlocks hK hN hP hD hS hA hl
  replace hl : lv_has ls 6 [(0, .ref (ah 99)), (1, .int i1), (2, .int i2), (3, .int i3)] := hl
  have L75 : ∀ (t0 : Int32) (S : zT) (Sf : zT), wpb_X4_told_75 Sn i1 i2 i3 Q t0 S Sf → ∀ (H : Heap) (locs : List Loc), va_P D zCl ((bX4 ah an am af ai aj al ag cy S) ++ ((bX3 an cy Sn) ++ ((bX0 af cy Sf)))) H → va_D A ((bX4 ah an am af ai aj al ag cy S) ++ ((bX3 an cy Sn) ++ ((bX0 af cy Sf)))) → va_S A s.heap H locs → ∀ ls : Array Slot, lv_has ls 6 [(0, .ref (ah 99)), (1, .int i1), (2, .int i2), (3, .int i3)] → W p l e rm_X4_told s m ([.ref (ah 99), .int i1, .int i2, .int i3] : List Value).toArray below meth c H locs 0 0 (MQ below (va_Qi (S := zT × zT) (fun (r : Int32) (u : zT × zT) => Q r (u.1) (u.2)) (fun u t => va_P D zCl ((fun (u : zT × zT) => ((bX4 ah an am af ai aj al ag cy (u.1)) ++ ((bX3 an cy Sn) ++ ((bX0 af cy (u.2)))))) u) t.heap) A) ([.ref (ah 99), .int i1, .int i2, .int i3] : List Value).toArray s 0 0 A) (F0 m 75 ls [.int t0]) := by
    intro t0 S Sf h H locs hP hD hS ls hl
    refine lv_istore (lv' := [(5, .int t0), (0, .ref (ah 99)), (1, .int i1), (2, .int i2), (3, .int i3)]) hx hb dX4_told_75 hl (by decide) rfl (fun ls hl => ?_)
    refine lv_aload_n hx hb dX4_told_77 rfl (lv_at hl 1 rfl) ?_
    refine va_get (D := D) (ci := 4) (v := .ref (af 99)) (C := RX4) (T := TX4) (N := 12) hx hb htB ziX4 hown hK hP 0 rfl rfl 2 (by decide) (htB _ zm_222) (fun _ h9 => h9) rfl dX4_told_78 ?_
    refine lv_iload_n hx hb dX4_told_81 rfl (lv_at hl 2 rfl) ?_
    refine lv_iload_n hx hb dX4_told_82 rfl (lv_at hl 3 rfl) ?_
    refine lv_iload_n hx hb dX4_told_83 rfl (lv_at hl 4 rfl) ?_
    refine lv_iload hx hb dX4_told_84 (lv_at hl 0 rfl) ?_
    have hPc : va_P D zCl (bX0 af cy Sf) H := hP.sub [7, 8, 9, 10, 11] rfl
    have hDc : va_D A (bX0 af cy Sf) := hD.sub [7, 8, 9, 10, 11] (by decide) rfl
    refine zc_v (ws' := fun u => ((bX4 ah an am af ai aj al ag cy S) ++ ((bX3 an cy Sn) ++ ((bX0 af cy u))))) (va_runV (As := [.int i1, .int i2, .int i3, .int t0]) (rest := []) ⟨hx, hb, hml, hown, htB⟩ (c_X0_add l D cy af H.size i1 i2 i3 t0 Sf h) (cwV 4 htB (zgV zm_228 zm_231 zm_232 zm_230 zm_229) rfl rfl rfl hd_X0_add ⟨Nat.le_of_ble_eq_true rfl, Nat.le_of_ble_eq_true rfl⟩) ⟨zM_blind, va_recv hK hP (ci := 0) (q0 := 7) rfl rfl, zM_pre hPc hK hN hDc⟩ rfl rfl hl.1 rfl (lv_room (Nat.le_of_ble_eq_true rfl)) dX4_told_86 ⟨Nat.zero_le _, Nat.zero_le _⟩) hS hA hP hD [7, 8, 9, 10, 11] [0, 1, 2, 3, 4, 5, 6] [0, 1, 2, 3, 4, 5, 6, 7, 8, 9, 10, 11] (by decide) rfl (by decide) (by decide) rfl (fun u => rfl) (fun u => rfl) (fun u => rfl) (fun u H locs h hP hD hS => ?_)
    obtain ⟨Sf_86, eu⟩ : ∃ z, z = u := ⟨_, rfl⟩
    subst eu
    replace hP : va_P D zCl ((bX4 ah an am af ai aj al ag cy S) ++ ((bX3 an cy Sn) ++ ((bX0 af cy Sf_86)))) H := hP
    replace hD : va_D A ((bX4 ah an am af ai aj al ag cy S) ++ ((bX3 an cy Sn) ++ ((bX0 af cy Sf_86)))) := hD
    refine lv_iload hx hb dX4_told_89 (lv_at hl 0 rfl) ?_
    exact W.iret (v := t0) hx hb hr (fun t ht hW => ⟨⟨_, (S, Sf_86), rfl, h, zP_h ht hP⟩, hS.F ht⟩) hS.2.2 dX4_told_91
  refine lv_aload_n hx hb dX4_told_0 rfl (lv_at hl 0 rfl) ?_
  refine lv_iload_n hx hb dX4_told_1 rfl (lv_at hl 1 rfl) ?_
  refine lv_iload_n hx hb dX4_told_2 rfl (lv_at hl 3 rfl) ?_
  refine lv_iload_n hx hb dX4_told_3 rfl (lv_at hl 2 rfl) ?_
  have hPc : va_P D zCl ([] : va_W) H := hP.sub [] rfl
  refine zc_r (va_runS (As := [.int i2]) (rest := [.int i3, .int i1, .ref (ah 99)]) ⟨hx, hb, hml, hown, htB⟩ (c_X4_isBit l D cy  i2 h) (cwS 1 htB (zgS zm_162 zm_118 zm_4 zm_117) rfl rfl rfl hd_X4_isBit ⟨Nat.le_of_ble_eq_true rfl, Nat.le_of_ble_eq_true rfl⟩) ⟨zR_blind, zR_pre hPc hK hN⟩ rfl rfl hl.1 rfl (lv_room (Nat.le_of_ble_eq_true rfl)) dX4_told_4 ⟨Nat.zero_le _, Nat.zero_le _⟩) (fun r4 h => ?_)
  have hPc : va_P D zCl ((bX4 ah an am af ai aj al ag cy S) ++ ((bX0 af cy Sf))) H := hP.sub [0, 1, 2, 3, 7, 8, 9, 10, 11] rfl
  refine zc_r (va_runV (As := [.int i1, .int i3, .int r4]) (rest := []) ⟨hx, hb, hml, hown, htB⟩ (c_X4_refusalOfFilm l D cy ah an am af ai aj al ag S Sf i1 i3 r4 h) (cwV 3 htB (zgV zm_224 zm_226 zm_227 zm_4 zm_225) rfl rfl rfl hd_X4_refusalOfFilm ⟨Nat.le_of_ble_eq_true rfl, Nat.le_of_ble_eq_true rfl⟩) ⟨zR_blind, va_recv hK hP (ci := 4) (q0 := 0) rfl rfl, zR_pre hPc hK hN⟩ rfl rfl hl.1 rfl (lv_room (Nat.le_of_ble_eq_true rfl)) dX4_told_7 ⟨Nat.zero_le _, Nat.zero_le _⟩) (fun r7 h => ?_)
  refine lv_istore (lv' := [(4, .int r7), (0, .ref (ah 99)), (1, .int i1), (2, .int i2), (3, .int i3)]) hx hb dX4_told_10 hl (by decide) rfl (fun ls hl => ?_)
  refine lv_iload hx hb dX4_told_12 (lv_at hl 0 rfl) ?_
  refine lv_if_eq (tgt := 24) hx hb dX4_told_14 (by decide) (fun c14 => ?_) (fun c14 => ?_)
  · replace h := And.left h c14
    refine lv_aload_n hx hb dX4_told_24 rfl (lv_at hl 1 rfl) ?_
    refine va_get (D := D) (ci := 4) (v := .ref (an 99)) (C := RX4) (T := TX4) (N := 12) hx hb htB ziX4 hown hK hP 0 rfl rfl 0 (by decide) (htB _ zm_155) (fun _ h9 => h9) rfl dX4_told_25 ?_
    refine lv_iconst (v := (4 : Int32)) hx hb dX4_told_28 (by decide) ?_
    have hPc : va_P D zCl (bX3 an cy Sn) H := hP.sub [4, 5, 6] rfl
    refine zc_r (va_runV (As := [.int (4 : Int32)]) (rest := []) ⟨hx, hb, hml, hown, htB⟩ (c_X3_door l D cy an Sn (4 : Int32) h) (cwV 1 htB (zgV zm_199 zm_29 zm_30 zm_28 zm_27) rfl rfl rfl hd_X3_door ⟨Nat.le_of_ble_eq_true rfl, Nat.le_of_ble_eq_true rfl⟩) ⟨zR_blind, va_recv hK hP (ci := 3) (q0 := 4) rfl rfl, zR_pre hPc hK hN⟩ rfl rfl hl.1 rfl (lv_room (Nat.le_of_ble_eq_true rfl)) dX4_told_29 ⟨Nat.zero_le _, Nat.zero_le _⟩) (fun r29 h => ?_)
    have hPc : va_P D zCl ([] : va_W) H := hP.sub [] rfl
    refine zc_r (va_runS (As := [.int r29]) (rest := []) ⟨hx, hb, hml, hown, htB⟩ (c_X4_isFilmCustom l D cy  r29 h) (cwS 1 htB (zgS zm_233 zm_235 zm_4 zm_234) rfl rfl rfl hd_X4_isFilmCustom ⟨Nat.le_of_ble_eq_true rfl, Nat.le_of_ble_eq_true rfl⟩) ⟨zR_blind, zR_pre hPc hK hN⟩ rfl rfl hl.1 rfl (lv_room (Nat.le_of_ble_eq_true rfl)) dX4_told_32 ⟨Nat.zero_le _, Nat.zero_le _⟩) (fun r32 h => ?_)
    refine lv_if_ne (tgt := 45) hx hb dX4_told_35 (by decide) (fun c35 => ?_) (fun c35 => ?_)
    · replace h := And.right h c35
      refine lv_iload_n hx hb dX4_told_45 rfl (lv_at hl 2 rfl) ?_
      refine lv_aload_n hx hb dX4_told_46 rfl (lv_at hl 1 rfl) ?_
      refine va_get (D := D) (ci := 4) (v := .ref (an 99)) (C := RX4) (T := TX4) (N := 12) hx hb htB ziX4 hown hK hP 0 rfl rfl 0 (by decide) (htB _ zm_155) (fun _ h9 => h9) rfl dX4_told_47 ?_
      refine lv_iconst (v := (4 : Int32)) hx hb dX4_told_50 (by decide) ?_
      have hPc : va_P D zCl (bX3 an cy Sn) H := hP.sub [4, 5, 6] rfl
      refine zc_r (va_runV (As := [.int (4 : Int32)]) (rest := [.int i1]) ⟨hx, hb, hml, hown, htB⟩ (c_X3_door l D cy an Sn (4 : Int32) h) (cwV 1 htB (zgV zm_199 zm_29 zm_30 zm_28 zm_27) rfl rfl rfl hd_X3_door ⟨Nat.le_of_ble_eq_true rfl, Nat.le_of_ble_eq_true rfl⟩) ⟨zR_blind, va_recv hK hP (ci := 3) (q0 := 4) rfl rfl, zR_pre hPc hK hN⟩ rfl rfl hl.1 rfl (lv_room (Nat.le_of_ble_eq_true rfl)) dX4_told_51 ⟨Nat.zero_le _, Nat.zero_le _⟩) (fun r51 h => ?_)
      refine lv_aload_n hx hb dX4_told_54 rfl (lv_at hl 1 rfl) ?_
      refine va_get (D := D) (ci := 4) (v := .ref (an 99)) (C := RX4) (T := TX4) (N := 12) hx hb htB ziX4 hown hK hP 0 rfl rfl 0 (by decide) (htB _ zm_155) (fun _ h9 => h9) rfl dX4_told_55 ?_
      refine lv_iconst (v := (3 : Int32)) hx hb dX4_told_58 (by decide) ?_
      have hPc : va_P D zCl (bX3 an cy Sn) H := hP.sub [4, 5, 6] rfl
      refine zc_r (va_runV (As := [.int (3 : Int32)]) (rest := [.int r51, .int i1]) ⟨hx, hb, hml, hown, htB⟩ (c_X3_door l D cy an Sn (3 : Int32) h) (cwV 1 htB (zgV zm_199 zm_29 zm_30 zm_28 zm_27) rfl rfl rfl hd_X3_door ⟨Nat.le_of_ble_eq_true rfl, Nat.le_of_ble_eq_true rfl⟩) ⟨zR_blind, va_recv hK hP (ci := 3) (q0 := 4) rfl rfl, zR_pre hPc hK hN⟩ rfl rfl hl.1 rfl (lv_room (Nat.le_of_ble_eq_true rfl)) dX4_told_59 ⟨Nat.zero_le _, Nat.zero_le _⟩) (fun r59 h => ?_)
      refine lv_iload_n hx hb dX4_told_62 rfl (lv_at hl 3 rfl) ?_
      refine lv_iload_n hx hb dX4_told_63 rfl (lv_at hl 4 rfl) ?_
      have hPc : va_P D zCl ([] : va_W) H := hP.sub [] rfl
      refine zc_r (va_runS (As := [.int r51, .int r59, .int i2, .int i3]) (rest := [.int i1]) ⟨hx, hb, hml, hown, htB⟩ (c_X4_filmUpTo l D cy  r51 r59 i2 i3 h) (cwS 4 htB (zgS zm_236 zm_17 zm_4 zm_16) rfl rfl rfl hd_X4_filmUpTo ⟨Nat.le_of_ble_eq_true rfl, Nat.le_of_ble_eq_true rfl⟩) ⟨zR_blind, zR_pre hPc hK hN⟩ rfl rfl hl.1 rfl (lv_room (Nat.le_of_ble_eq_true rfl)) dX4_told_64 ⟨Nat.zero_le _, Nat.zero_le _⟩) (fun r64 h => ?_)
      refine lv_icmp_gt (tgt := 74) hx hb dX4_told_67 (by decide) (fun c67 => ?_) (fun c67 => ?_)
      · replace h := And.left h c67
        refine lv_iconst (v := (0 : Int32)) hx hb dX4_told_74 (by decide) ?_
        exact L75 (0 : Int32) S Sf h H locs hP hD hS ls (lv_sub hl [1, 2, 3, 4] rfl)
      · replace h := And.right h c67
        refine lv_iconst (v := (1 : Int32)) hx hb dX4_told_70 (by decide) ?_
        refine lv_goto (tgt := 75) hx hb dX4_told_71 (by decide) ?_
        exact L75 (1 : Int32) S Sf h H locs hP hD hS ls (lv_sub hl [1, 2, 3, 4] rfl)
    · replace h := And.left h c35
      refine lv_aload_n hx hb dX4_told_38 rfl (lv_at hl 1 rfl) ?_
      refine lv_bipush (v := (-3 : Int32)) hx hb dX4_told_39 (by decide) ?_
      have hPc : va_P D zCl (bX4 ah an am af ai aj al ag cy S) H := hP.sub [0, 1, 2, 3] rfl
      have hDc : va_D A (bX4 ah an am af ai aj al ag cy S) := hD.sub [0, 1, 2, 3] (by decide) rfl
      refine zc_i (ws' := fun u => ((bX4 ah an am af ai aj al ag cy u) ++ ((bX3 an cy Sn) ++ ((bX0 af cy Sf))))) (va_runV (As := [.int (-3 : Int32)]) (rest := []) ⟨hx, hb, hml, hown, htB⟩ (c_X4_refuse l D cy ah an am af ai aj al ag H.size (-3 : Int32) S h) (cwV 1 htB (zgV zm_145 zm_147 zm_148 zm_4 zm_146) rfl rfl rfl hd_X4_refuse ⟨Nat.le_of_ble_eq_true rfl, Nat.le_of_ble_eq_true rfl⟩) ⟨zM_blind, va_recv hK hP (ci := 4) (q0 := 0) rfl rfl, zM_pre hPc hK hN hDc⟩ rfl rfl hl.1 rfl (lv_room (Nat.le_of_ble_eq_true rfl)) dX4_told_41 ⟨Nat.zero_le _, Nat.zero_le _⟩) hS hA hP hD [0, 1, 2, 3] [4, 5, 6, 7, 8, 9, 10, 11] [8, 9, 10, 11, 0, 1, 2, 3, 4, 5, 6, 7] (by decide) rfl (by decide) (by decide) rfl (fun u => rfl) (fun u => rfl) (fun u => rfl) (fun r41 u H locs h hP hD hS => ?_)
      obtain ⟨S_41, eu⟩ : ∃ z, z = u := ⟨_, rfl⟩
      subst eu
      replace hP : va_P D zCl ((bX4 ah an am af ai aj al ag cy S_41) ++ ((bX3 an cy Sn) ++ ((bX0 af cy Sf)))) H := hP
      replace hD : va_D A ((bX4 ah an am af ai aj al ag cy S_41) ++ ((bX3 an cy Sn) ++ ((bX0 af cy Sf)))) := hD
      exact W.iret (v := r41) hx hb hr (fun t ht hW => ⟨⟨_, (S_41, Sf), rfl, h, zP_h ht hP⟩, hS.F ht⟩) hS.2.2 dX4_told_44
  · replace h := And.right h c14
    refine lv_aload_n hx hb dX4_told_17 rfl (lv_at hl 1 rfl) ?_
    refine lv_iload hx hb dX4_told_18 (lv_at hl 0 rfl) ?_
    have hPc : va_P D zCl (bX4 ah an am af ai aj al ag cy S) H := hP.sub [0, 1, 2, 3] rfl
    have hDc : va_D A (bX4 ah an am af ai aj al ag cy S) := hD.sub [0, 1, 2, 3] (by decide) rfl
    refine zc_i (ws' := fun u => ((bX4 ah an am af ai aj al ag cy u) ++ ((bX3 an cy Sn) ++ ((bX0 af cy Sf))))) (va_runV (As := [.int r7]) (rest := []) ⟨hx, hb, hml, hown, htB⟩ (c_X4_refuse l D cy ah an am af ai aj al ag H.size r7 S h) (cwV 1 htB (zgV zm_145 zm_147 zm_148 zm_4 zm_146) rfl rfl rfl hd_X4_refuse ⟨Nat.le_of_ble_eq_true rfl, Nat.le_of_ble_eq_true rfl⟩) ⟨zM_blind, va_recv hK hP (ci := 4) (q0 := 0) rfl rfl, zM_pre hPc hK hN hDc⟩ rfl rfl hl.1 rfl (lv_room (Nat.le_of_ble_eq_true rfl)) dX4_told_20 ⟨Nat.zero_le _, Nat.zero_le _⟩) hS hA hP hD [0, 1, 2, 3] [4, 5, 6, 7, 8, 9, 10, 11] [8, 9, 10, 11, 0, 1, 2, 3, 4, 5, 6, 7] (by decide) rfl (by decide) (by decide) rfl (fun u => rfl) (fun u => rfl) (fun u => rfl) (fun r20 u H locs h hP hD hS => ?_)
    obtain ⟨S_20, eu⟩ : ∃ z, z = u := ⟨_, rfl⟩
    subst eu
    replace hP : va_P D zCl ((bX4 ah an am af ai aj al ag cy S_20) ++ ((bX3 an cy Sn) ++ ((bX0 af cy Sf)))) H := hP
    replace hD : va_D A ((bX4 ah an am af ai aj al ag cy S_20) ++ ((bX3 an cy Sn) ++ ((bX0 af cy Sf)))) := hD
    exact W.iret (v := r20) hx hb hr (fun t ht hW => ⟨⟨_, (S_20, Sf), rfl, h, zP_h ht hP⟩, hS.F ht⟩) hS.2.2 dX4_told_23
set_option maxHeartbeats 4000000 in
set_option maxRecDepth 100000 in
theorem c_X4_fitting (l : Launch) (D : va_G) (cy : ClassId) (ah : Nat → Nat) (an : Nat → Nat) (am : Nat → Nat) (af : Nat → Nat) (ai : Nat → Nat) (aj : Nat → Nat) (al : Nat → Nat) (ag : Nat → Nat) (sz : Nat) (Sf : zT) (i1 : Int32) (i2 : Int32) (S : zT) {Q : Int32 → zT → Prop} (h : wp_X4_fitting Sf i1 i2 S Q) : Met l yX4_fitting w_X4_fitting rm_X4_fitting (va_Pc [.ref (ah 99), .int i1, .int i2] (zM D cy ((bX4 ah an am af ai aj al ag cy S) ++ ((bX0 af cy Sf))) sz)) (va_Qi (S := zT) (fun (r : Int32) (u : zT) => Q r u) (fun u t => va_P D zCl ((fun (u : zT) => ((bX4 ah an am af ai aj al ag cy u) ++ ((bX0 af cy Sf)))) u) t.heap) (va_A ((bX4 ah an am af ai aj al ag cy S) ++ ((bX0 af cy Sf))) sz)) 0 0 (va_A ((bX4 ah an am af ai aj al ag cy S) ++ ((bX0 af cy Sf))) sz) := by
  refine zOf_i (by decide) (Nat.le_of_ble_eq_true rfl) ?_
  intro p e s m below meth c ls A H locs hx hb hr hml hown htB hlocks hK hN hP hD hS hA hl
  replace hl : lv_has ls 7 [(0, .ref (ah 99)), (1, .int i1), (2, .int i2)] := hl
  have L82 : ∀ (x3 : Int32) (x4 : Int32) (x5 : Int32) (S : zT), wpb_X4_fitting_82 Sf i1 i2 Q x3 x4 x5 S → ∀ (H : Heap) (locs : List Loc), va_P D zCl ((bX4 ah an am af ai aj al ag cy S) ++ ((bX0 af cy Sf))) H → va_D A ((bX4 ah an am af ai aj al ag cy S) ++ ((bX0 af cy Sf))) → va_S A s.heap H locs → ∀ ls : Array Slot, lv_has ls 7 [(0, .ref (ah 99)), (2, .int i2), (3, .int x3), (4, .int x4), (5, .int x5)] → W p l e rm_X4_fitting s m ([.ref (ah 99), .int i1, .int i2] : List Value).toArray below meth c H locs 0 0 (MQ below (va_Qi (S := zT) (fun (r : Int32) (u : zT) => Q r u) (fun u t => va_P D zCl ((fun (u : zT) => ((bX4 ah an am af ai aj al ag cy u) ++ ((bX0 af cy Sf)))) u) t.heap) A) ([.ref (ah 99), .int i1, .int i2] : List Value).toArray s 0 0 A) (F0 m 82 ls []) := by
    intro x3 x4 x5 S h H locs hP hD hS ls hl
    refine lv_iload_n hx hb dX4_fitting_82 rfl (lv_at hl 1 rfl) ?_
    refine lv_if_ne (tgt := 88) hx hb dX4_fitting_83 (by decide) (fun c83 => ?_) (fun c83 => ?_)
    · replace h := And.right h c83
      refine lv_iload_n hx hb dX4_fitting_88 rfl (lv_at hl 1 rfl) ?_
      refine lv_iconst (v := (1 : Int32)) hx hb dX4_fitting_89 (by decide) ?_
      refine lv_icmp_ne (tgt := 98) hx hb dX4_fitting_90 (by decide) (fun c90 => ?_) (fun c90 => ?_)
      · replace h := And.right h c90
        refine lv_iload hx hb dX4_fitting_98 (lv_at hl 4 rfl) ?_
        exact W.iret (v := x5) hx hb hr (fun t ht hW => ⟨⟨_, S, rfl, h, zP_h ht hP⟩, hS.F ht⟩) hS.2.2 dX4_fitting_100
      · replace h := And.left h c90
        refine lv_iload hx hb dX4_fitting_93 (lv_at hl 3 rfl) ?_
        refine lv_goto (tgt := 100) hx hb dX4_fitting_95 (by decide) ?_
        exact W.iret (v := x4) hx hb hr (fun t ht hW => ⟨⟨_, S, rfl, h, zP_h ht hP⟩, hS.F ht⟩) hS.2.2 dX4_fitting_100
    · replace h := And.left h c83
      refine lv_iload_n hx hb dX4_fitting_86 rfl (lv_at hl 2 rfl) ?_
      exact W.iret (v := x3) hx hb hr (fun t ht hW => ⟨⟨_, S, rfl, h, zP_h ht hP⟩, hS.F ht⟩) hS.2.2 dX4_fitting_87
  have L36 : ∀ (k36 : Nat) (x3 : Int32) (x4 : Int32) (x5 : Int32) (x6 : Int32) (S : zT), wpl_X4_fitting_36 Sf i1 i2 Q k36 x3 x4 x5 x6 S → ∀ (H : Heap) (locs : List Loc), va_P D zCl ((bX4 ah an am af ai aj al ag cy S) ++ ((bX0 af cy Sf))) H → va_D A ((bX4 ah an am af ai aj al ag cy S) ++ ((bX0 af cy Sf))) → va_S A s.heap H locs → ∀ ls : Array Slot, lv_has ls 7 [(0, .ref (ah 99)), (1, .int i1), (2, .int i2), (3, .int x3), (4, .int x4), (5, .int x5), (6, .int x6)] → W p l e rm_X4_fitting s m ([.ref (ah 99), .int i1, .int i2] : List Value).toArray below meth c H locs 0 0 (MQ below (va_Qi (S := zT) (fun (r : Int32) (u : zT) => Q r u) (fun u t => va_P D zCl ((fun (u : zT) => ((bX4 ah an am af ai aj al ag cy u) ++ ((bX0 af cy Sf)))) u) t.heap) A) ([.ref (ah 99), .int i1, .int i2] : List Value).toArray s 0 0 A) (F0 m 36 ls []) := by
    intro k36
    induction k36 with
    | zero => exact fun x3 x4 x5 x6 S h => False.elim h
    | succ k36 ih36 =>
      have L76 : ∀ (x3 : Int32) (x4 : Int32) (x5 : Int32) (x6 : Int32) (S : zT), wpb_X4_fitting_76 Sf i1 i2 Q (wpl_X4_fitting_36 Sf i1 i2 Q k36) x3 x4 x5 x6 S → ∀ (H : Heap) (locs : List Loc), va_P D zCl ((bX4 ah an am af ai aj al ag cy S) ++ ((bX0 af cy Sf))) H → va_D A ((bX4 ah an am af ai aj al ag cy S) ++ ((bX0 af cy Sf))) → va_S A s.heap H locs → ∀ ls : Array Slot, lv_has ls 7 [(0, .ref (ah 99)), (1, .int i1), (2, .int i2), (3, .int x3), (4, .int x4), (5, .int x5), (6, .int x6)] → W p l e rm_X4_fitting s m ([.ref (ah 99), .int i1, .int i2] : List Value).toArray below meth c H locs 0 0 (MQ below (va_Qi (S := zT) (fun (r : Int32) (u : zT) => Q r u) (fun u t => va_P D zCl ((fun (u : zT) => ((bX4 ah an am af ai aj al ag cy u) ++ ((bX0 af cy Sf)))) u) t.heap) A) ([.ref (ah 99), .int i1, .int i2] : List Value).toArray s 0 0 A) (F0 m 76 ls []) := by
        intro x3 x4 x5 x6 S h H locs hP hD hS ls hl
        obtain ⟨y76, ey76⟩ : ∃ z : Int32, z = (x6 + (1 : Int32)) := ⟨_, rfl⟩
        replace h := h y76 ey76
        refine lv_iinc (v := y76) (lv' := [(6, .int y76), (0, .ref (ah 99)), (1, .int i1), (2, .int i2), (3, .int x3), (4, .int x4), (5, .int x5)]) hx hb dX4_fitting_76 hl (k := 6) rfl (by rw [ey76]; rfl) (by decide) rfl (fun ls hl => ?_)
        refine lv_goto (tgt := 36) hx hb dX4_fitting_79 (by decide) ?_
        exact ih36 x3 x4 x5 y76 S h H locs hP hD hS ls (lv_sub hl [1, 2, 3, 4, 5, 6, 0] rfl)
      have L67 : ∀ (x3 : Int32) (x6 : Int32) (t0 : Int32) (S : zT), wpb_X4_fitting_67 Sf i1 i2 Q (wpl_X4_fitting_36 Sf i1 i2 Q k36) x3 x6 t0 S → ∀ (H : Heap) (locs : List Loc), va_P D zCl ((bX4 ah an am af ai aj al ag cy S) ++ ((bX0 af cy Sf))) H → va_D A ((bX4 ah an am af ai aj al ag cy S) ++ ((bX0 af cy Sf))) → va_S A s.heap H locs → ∀ ls : Array Slot, lv_has ls 7 [(0, .ref (ah 99)), (1, .int i1), (2, .int i2), (3, .int x3), (6, .int x6)] → W p l e rm_X4_fitting s m ([.ref (ah 99), .int i1, .int i2] : List Value).toArray below meth c H locs 0 0 (MQ below (va_Qi (S := zT) (fun (r : Int32) (u : zT) => Q r u) (fun u t => va_P D zCl ((fun (u : zT) => ((bX4 ah an am af ai aj al ag cy u) ++ ((bX0 af cy Sf)))) u) t.heap) A) ([.ref (ah 99), .int i1, .int i2] : List Value).toArray s 0 0 A) (F0 m 67 ls [.int t0]) := by
        intro x3 x6 t0 S h H locs hP hD hS ls hl
        refine lv_istore (lv' := [(4, .int t0), (0, .ref (ah 99)), (1, .int i1), (2, .int i2), (3, .int x3), (6, .int x6)]) hx hb dX4_fitting_67 hl (by decide) rfl (fun ls hl => ?_)
        refine lv_iload hx hb dX4_fitting_69 (lv_at hl 5 rfl) ?_
        refine lv_istore (lv' := [(5, .int x6), (4, .int t0), (0, .ref (ah 99)), (1, .int i1), (2, .int i2), (3, .int x3), (6, .int x6)]) hx hb dX4_fitting_71 hl (by decide) rfl (fun ls hl => ?_)
        obtain ⟨y73, ey73⟩ : ∃ z : Int32, z = (x3 + (1 : Int32)) := ⟨_, rfl⟩
        replace h := h y73 ey73
        refine lv_iinc (v := y73) (lv' := [(3, .int y73), (5, .int x6), (4, .int t0), (0, .ref (ah 99)), (1, .int i1), (2, .int i2), (6, .int x6)]) hx hb dX4_fitting_73 hl (k := 5) rfl (by rw [ey73]; rfl) (by decide) rfl (fun ls hl => ?_)
        exact L76 y73 t0 x6 x6 S h H locs hP hD hS ls (lv_sub hl [3, 4, 5, 0, 2, 1, 6] rfl)
      intro x3 x4 x5 x6 S h H locs hP hD hS ls hl
      refine lv_iload hx hb dX4_fitting_36 (lv_at hl 6 rfl) ?_
      refine lv_bipush (v := (40 : Int32)) hx hb dX4_fitting_38 (by decide) ?_
      refine lv_icmp_gt (tgt := 82) hx hb dX4_fitting_40 (by decide) (fun c40 => ?_) (fun c40 => ?_)
      · replace h := And.left h c40
        exact L82 x3 x4 x5 S h H locs hP hD hS ls (lv_sub hl [0, 2, 3, 4, 5] rfl)
      · replace h := And.right h c40
        refine lv_aload_n hx hb dX4_fitting_43 rfl (lv_at hl 0 rfl) ?_
        refine va_get (D := D) (ci := 4) (v := .ref (af 99)) (C := RX4) (T := TX4) (N := 12) hx hb htB ziX4 hown hK hP 0 rfl rfl 2 (by decide) (htB _ zm_222) (fun _ h9 => h9) rfl dX4_fitting_44 ?_
        refine lv_iload_n hx hb dX4_fitting_47 rfl (lv_at hl 1 rfl) ?_
        refine lv_iload hx hb dX4_fitting_48 (lv_at hl 6 rfl) ?_
        have hPc : va_P D zCl (bX0 af cy Sf) H := hP.sub [4, 5, 6, 7, 8] rfl
        refine zc_r (va_runV (As := [.int i1, .int x6]) (rest := []) ⟨hx, hb, hml, hown, htB⟩ (c_X0_allAreSo l D cy af Sf i1 x6 h) (cwV 2 htB (zgV zm_237 zm_239 zm_240 zm_230 zm_238) rfl rfl rfl hd_X0_allAreSo ⟨Nat.le_of_ble_eq_true rfl, Nat.le_of_ble_eq_true rfl⟩) ⟨zR_blind, va_recv hK hP (ci := 0) (q0 := 4) rfl rfl, zR_pre hPc hK hN⟩ rfl rfl hl.1 rfl (lv_room (Nat.le_of_ble_eq_true rfl)) dX4_fitting_50 ⟨Nat.zero_le _, Nat.zero_le _⟩) (fun r50 h => ?_)
        refine lv_if_eq (tgt := 76) hx hb dX4_fitting_53 (by decide) (fun c53 => ?_) (fun c53 => ?_)
        · replace h := And.left h c53
          exact L76 x3 x4 x5 x6 S h H locs hP hD hS ls (lv_sub hl [0, 1, 2, 3, 4, 5, 6] rfl)
        · replace h := And.right h c53
          refine lv_iload_n hx hb dX4_fitting_56 rfl (lv_at hl 3 rfl) ?_
          refine lv_if_ne (tgt := 65) hx hb dX4_fitting_57 (by decide) (fun c57 => ?_) (fun c57 => ?_)
          · replace h := And.right h c57
            refine lv_iload hx hb dX4_fitting_65 (lv_at hl 4 rfl) ?_
            exact L67 x3 x6 x4 S h H locs hP hD hS ls (lv_sub hl [0, 1, 2, 3, 6] rfl)
          · replace h := And.left h c57
            refine lv_iload hx hb dX4_fitting_60 (lv_at hl 6 rfl) ?_
            refine lv_goto (tgt := 67) hx hb dX4_fitting_62 (by decide) ?_
            exact L67 x3 x6 x6 S h H locs hP hD hS ls (lv_sub hl [0, 1, 2, 3, 6] rfl)
  have L16 : ∀ (S : zT), wpb_X4_fitting_16 Sf i1 i2 Q S → ∀ (H : Heap) (locs : List Loc), va_P D zCl ((bX4 ah an am af ai aj al ag cy S) ++ ((bX0 af cy Sf))) H → va_D A ((bX4 ah an am af ai aj al ag cy S) ++ ((bX0 af cy Sf))) → va_S A s.heap H locs → ∀ ls : Array Slot, lv_has ls 7 [(0, .ref (ah 99))] → W p l e rm_X4_fitting s m ([.ref (ah 99), .int i1, .int i2] : List Value).toArray below meth c H locs 0 0 (MQ below (va_Qi (S := zT) (fun (r : Int32) (u : zT) => Q r u) (fun u t => va_P D zCl ((fun (u : zT) => ((bX4 ah an am af ai aj al ag cy u) ++ ((bX0 af cy Sf)))) u) t.heap) A) ([.ref (ah 99), .int i1, .int i2] : List Value).toArray s 0 0 A) (F0 m 16 ls []) := by
    intro S h H locs hP hD hS ls hl
    refine lv_aload_n hx hb dX4_fitting_16 rfl (lv_at hl 0 rfl) ?_
    refine lv_bipush (v := (-2 : Int32)) hx hb dX4_fitting_17 (by decide) ?_
    have hPc : va_P D zCl (bX4 ah an am af ai aj al ag cy S) H := hP.sub [0, 1, 2, 3] rfl
    have hDc : va_D A (bX4 ah an am af ai aj al ag cy S) := hD.sub [0, 1, 2, 3] (by decide) rfl
    refine zc_i (ws' := fun u => ((bX4 ah an am af ai aj al ag cy u) ++ ((bX0 af cy Sf)))) (va_runV (As := [.int (-2 : Int32)]) (rest := []) ⟨hx, hb, hml, hown, htB⟩ (c_X4_refuse l D cy ah an am af ai aj al ag H.size (-2 : Int32) S h) (cwV 1 htB (zgV zm_145 zm_147 zm_148 zm_4 zm_146) rfl rfl rfl hd_X4_refuse ⟨Nat.le_of_ble_eq_true rfl, Nat.le_of_ble_eq_true rfl⟩) ⟨zM_blind, va_recv hK hP (ci := 4) (q0 := 0) rfl rfl, zM_pre hPc hK hN hDc⟩ rfl rfl hl.1 rfl (lv_room (Nat.le_of_ble_eq_true rfl)) dX4_fitting_19 ⟨Nat.zero_le _, Nat.zero_le _⟩) hS hA hP hD [0, 1, 2, 3] [4, 5, 6, 7, 8] [5, 6, 7, 8, 0, 1, 2, 3, 4] (by decide) rfl (by decide) (by decide) rfl (fun u => rfl) (fun u => rfl) (fun u => rfl) (fun r19 u H locs h hP hD hS => ?_)
    obtain ⟨S_19, eu⟩ : ∃ z, z = u := ⟨_, rfl⟩
    subst eu
    replace hP : va_P D zCl ((bX4 ah an am af ai aj al ag cy S_19) ++ ((bX0 af cy Sf))) H := hP
    replace hD : va_D A ((bX4 ah an am af ai aj al ag cy S_19) ++ ((bX0 af cy Sf))) := hD
    exact W.iret (v := r19) hx hb hr (fun t ht hW => ⟨⟨_, S_19, rfl, h, zP_h ht hP⟩, hS.F ht⟩) hS.2.2 dX4_fitting_22
  refine lv_iload_n hx hb dX4_fitting_0 rfl (lv_at hl 1 rfl) ?_
  have hPc : va_P D zCl ([] : va_W) H := hP.sub [] rfl
  refine zc_r (va_runS (As := [.int i1]) (rest := []) ⟨hx, hb, hml, hown, htB⟩ (c_X4_isFilmCustom l D cy  i1 h) (cwS 1 htB (zgS zm_233 zm_235 zm_4 zm_234) rfl rfl rfl hd_X4_isFilmCustom ⟨Nat.le_of_ble_eq_true rfl, Nat.le_of_ble_eq_true rfl⟩) ⟨zR_blind, zR_pre hPc hK hN⟩ rfl rfl hl.1 rfl (lv_room (Nat.le_of_ble_eq_true rfl)) dX4_fitting_1 ⟨Nat.zero_le _, Nat.zero_le _⟩) (fun r1 h => ?_)
  refine lv_if_eq (tgt := 16) hx hb dX4_fitting_4 (by decide) (fun c4 => ?_) (fun c4 => ?_)
  · replace h := And.left h c4
    exact L16 S h H locs hP hD hS ls (lv_sub hl [0] rfl)
  · replace h := And.right h c4
    refine lv_iload_n hx hb dX4_fitting_7 rfl (lv_at hl 2 rfl) ?_
    refine lv_if_lt (tgt := 16) hx hb dX4_fitting_8 (by decide) (fun c8 => ?_) (fun c8 => ?_)
    · replace h := And.left h c8
      exact L16 S h H locs hP hD hS ls (lv_sub hl [0] rfl)
    · replace h := And.right h c8
      refine lv_iload_n hx hb dX4_fitting_11 rfl (lv_at hl 2 rfl) ?_
      refine lv_iconst (v := (2 : Int32)) hx hb dX4_fitting_12 (by decide) ?_
      refine lv_icmp_le (tgt := 23) hx hb dX4_fitting_13 (by decide) (fun c13 => ?_) (fun c13 => ?_)
      · replace h := And.left h c13
        refine lv_iconst (v := (0 : Int32)) hx hb dX4_fitting_23 (by decide) ?_
        refine lv_istore_n (lv' := [(3, .int (0 : Int32)), (0, .ref (ah 99)), (1, .int i1), (2, .int i2)]) hx hb dX4_fitting_24 rfl hl (by decide) rfl (fun ls hl => ?_)
        refine lv_bipush (v := (-9 : Int32)) hx hb dX4_fitting_25 (by decide) ?_
        refine lv_istore (lv' := [(4, .int (-9 : Int32)), (3, .int (0 : Int32)), (0, .ref (ah 99)), (1, .int i1), (2, .int i2)]) hx hb dX4_fitting_27 hl (by decide) rfl (fun ls hl => ?_)
        refine lv_bipush (v := (-9 : Int32)) hx hb dX4_fitting_29 (by decide) ?_
        refine lv_istore (lv' := [(5, .int (-9 : Int32)), (4, .int (-9 : Int32)), (3, .int (0 : Int32)), (0, .ref (ah 99)), (1, .int i1), (2, .int i2)]) hx hb dX4_fitting_31 hl (by decide) rfl (fun ls hl => ?_)
        refine lv_iconst (v := (0 : Int32)) hx hb dX4_fitting_33 (by decide) ?_
        refine lv_istore (lv' := [(6, .int (0 : Int32)), (5, .int (-9 : Int32)), (4, .int (-9 : Int32)), (3, .int (0 : Int32)), (0, .ref (ah 99)), (1, .int i1), (2, .int i2)]) hx hb dX4_fitting_34 hl (by decide) rfl (fun ls hl => ?_)
        obtain ⟨nn, h⟩ := h
        exact L36 nn (0 : Int32) (-9 : Int32) (-9 : Int32) (0 : Int32) S h H locs hP hD hS ls (lv_sub hl [4, 5, 6, 3, 2, 1, 0] rfl)
      · replace h := And.right h c13
        exact L16 S h H locs hP hD hS ls (lv_sub hl [0] rfl)
set_option maxHeartbeats 4000000 in
set_option maxRecDepth 100000 in
theorem c_X4_seeds (l : Launch) (D : va_G) (cy : ClassId) (ah : Nat → Nat) (an : Nat → Nat) (am : Nat → Nat) (af : Nat → Nat) (ai : Nat → Nat) (aj : Nat → Nat) (al : Nat → Nat) (ag : Nat → Nat) (sz : Nat) (Sn : zT) (i1 : Int32) (i2 : Int32) (S : zT) (Sm : zT) (Sg : zT) {Q : Int32 → zT → zT → zT → Prop} (h : wp_X4_seeds Sn i1 i2 S Sm Sg Q) : Met l yX4_seeds w_X4_seeds rm_X4_seeds (va_Pc [.ref (ah 99), .int i1, .int i2] (zM D cy ((bX4 ah an am af ai aj al ag cy S) ++ ((bX3 an cy Sn) ++ ((bX3 am cy Sm) ++ ((bX1 ag cy Sg))))) sz)) (va_Qi (S := zT × zT × zT) (fun (r : Int32) (u : zT × zT × zT) => Q r (u.1) (u.2.1) (u.2.2)) (fun u t => va_P D zCl ((fun (u : zT × zT × zT) => ((bX4 ah an am af ai aj al ag cy (u.1)) ++ ((bX3 an cy Sn) ++ ((bX3 am cy (u.2.1)) ++ ((bX1 ag cy (u.2.2))))))) u) t.heap) (va_A ((bX4 ah an am af ai aj al ag cy S) ++ ((bX3 an cy Sn) ++ ((bX3 am cy Sm) ++ ((bX1 ag cy Sg))))) sz)) 0 0 (va_A ((bX4 ah an am af ai aj al ag cy S) ++ ((bX3 an cy Sn) ++ ((bX3 am cy Sm) ++ ((bX1 ag cy Sg))))) sz) := by
  refine zOf_i (by decide) (Nat.le_of_ble_eq_true rfl) ?_
  intro p e s m below meth c ls A H locs hx hb hr hml hown htB hlocks hK hN hP hD hS hA hl
  replace hl : lv_has ls 7 [(0, .ref (ah 99)), (1, .int i1), (2, .int i2)] := hl
  have L44 : ∀ (k44 : Nat) (x3 : Int32) (x4 : Int32) (x5 : Int32) (S : zT) (Sm : zT) (Sg : zT), wpl_X4_seeds_44 Sn i1 i2 Q k44 x3 x4 x5 S Sm Sg → ∀ (H : Heap) (locs : List Loc), va_P D zCl ((bX4 ah an am af ai aj al ag cy S) ++ ((bX3 an cy Sn) ++ ((bX3 am cy Sm) ++ ((bX1 ag cy Sg))))) H → va_D A ((bX4 ah an am af ai aj al ag cy S) ++ ((bX3 an cy Sn) ++ ((bX3 am cy Sm) ++ ((bX1 ag cy Sg))))) → va_S A s.heap H locs → ∀ ls : Array Slot, lv_has ls 7 [(0, .ref (ah 99)), (1, .int i1), (3, .int x3), (4, .int x4), (5, .int x5)] → W p l e rm_X4_seeds s m ([.ref (ah 99), .int i1, .int i2] : List Value).toArray below meth c H locs 0 0 (MQ below (va_Qi (S := zT × zT × zT) (fun (r : Int32) (u : zT × zT × zT) => Q r (u.1) (u.2.1) (u.2.2)) (fun u t => va_P D zCl ((fun (u : zT × zT × zT) => ((bX4 ah an am af ai aj al ag cy (u.1)) ++ ((bX3 an cy Sn) ++ ((bX3 am cy (u.2.1)) ++ ((bX1 ag cy (u.2.2))))))) u) t.heap) A) ([.ref (ah 99), .int i1, .int i2] : List Value).toArray s 0 0 A) (F0 m 44 ls []) := by
    intro k44
    induction k44 with
    | zero => exact fun x3 x4 x5 S Sm Sg h => False.elim h
    | succ k44 ih44 =>
      have L99 : ∀ (x3 : Int32) (x4 : Int32) (x5 : Int32) (S : zT) (Sm : zT) (Sg : zT), wpb_X4_seeds_99 Sn i1 i2 Q (wpl_X4_seeds_44 Sn i1 i2 Q k44) x3 x4 x5 S Sm Sg → ∀ (H : Heap) (locs : List Loc), va_P D zCl ((bX4 ah an am af ai aj al ag cy S) ++ ((bX3 an cy Sn) ++ ((bX3 am cy Sm) ++ ((bX1 ag cy Sg))))) H → va_D A ((bX4 ah an am af ai aj al ag cy S) ++ ((bX3 an cy Sn) ++ ((bX3 am cy Sm) ++ ((bX1 ag cy Sg))))) → va_S A s.heap H locs → ∀ ls : Array Slot, lv_has ls 7 [(0, .ref (ah 99)), (1, .int i1), (3, .int x3), (4, .int x4), (5, .int x5)] → W p l e rm_X4_seeds s m ([.ref (ah 99), .int i1, .int i2] : List Value).toArray below meth c H locs 0 0 (MQ below (va_Qi (S := zT × zT × zT) (fun (r : Int32) (u : zT × zT × zT) => Q r (u.1) (u.2.1) (u.2.2)) (fun u t => va_P D zCl ((fun (u : zT × zT × zT) => ((bX4 ah an am af ai aj al ag cy (u.1)) ++ ((bX3 an cy Sn) ++ ((bX3 am cy (u.2.1)) ++ ((bX1 ag cy (u.2.2))))))) u) t.heap) A) ([.ref (ah 99), .int i1, .int i2] : List Value).toArray s 0 0 A) (F0 m 99 ls []) := by
        intro x3 x4 x5 S Sm Sg h H locs hP hD hS ls hl
        refine lv_aload_n hx hb dX4_seeds_99 rfl (lv_at hl 0 rfl) ?_
        refine va_get (D := D) (ci := 4) (v := .ref (ag 99)) (C := RX4) (T := TX4) (N := 12) hx hb htB ziX4 hown hK hP 0 rfl rfl 7 (by decide) (htB _ zm_165) (fun _ h9 => h9) rfl dX4_seeds_100 ?_
        refine lv_aload_n hx hb dX4_seeds_103 rfl (lv_at hl 0 rfl) ?_
        refine va_get (D := D) (ci := 4) (v := .ref (am 99)) (C := RX4) (T := TX4) (N := 12) hx hb htB ziX4 hown hK hP 0 rfl rfl 1 (by decide) (htB _ zm_204) (fun _ h9 => h9) rfl dX4_seeds_104 ?_
        have hPc : va_P D zCl ((bX1 ag cy Sg) ++ ((bX3 am cy Sm))) H := hP.sub [10, 11, 12, 13, 14, 15, 16, 17, 18, 19, 20, 7, 8, 9] rfl
        have hDc : va_D A ((bX1 ag cy Sg) ++ ((bX3 am cy Sm))) := hD.sub [10, 11, 12, 13, 14, 15, 16, 17, 18, 19, 20, 7, 8, 9] (by decide) rfl
        refine zc_v (ws' := fun u => ((bX4 ah an am af ai aj al ag cy S) ++ ((bX3 an cy Sn) ++ ((bX3 am cy Sm) ++ ((bX1 ag cy u)))))) (va_runV (As := [.ref (am 99)]) (rest := []) ⟨hx, hb, hml, hown, htB⟩ (c_X1_run l D cy ag am H.size Sm Sg h) (cwV 1 htB (zgV zm_166 zm_168 zm_169 zm_57 zm_167) rfl rfl rfl hd_X1_run ⟨Nat.le_of_ble_eq_true rfl, Nat.le_of_ble_eq_true rfl⟩) ⟨zM_blind, va_recv hK hP (ci := 1) (q0 := 10) rfl rfl, zM_pre hPc hK hN hDc⟩ rfl rfl hl.1 rfl (lv_room (Nat.le_of_ble_eq_true rfl)) dX4_seeds_107 ⟨Nat.zero_le _, Nat.zero_le _⟩) hS hA hP hD [10, 11, 12, 13, 14, 15, 16, 17, 18, 19, 20, 7, 8, 9] [0, 1, 2, 3, 4, 5, 6] [0, 1, 2, 3, 4, 5, 6, 18, 19, 20, 7, 8, 9, 10, 11, 12, 13, 14, 15, 16, 17] (by decide) rfl (by decide) (by decide) rfl (fun u => rfl) (fun u => rfl) (fun u => rfl) (fun u H locs h hP hD hS => ?_)
        obtain ⟨Sg_107, eu⟩ : ∃ z, z = u := ⟨_, rfl⟩
        subst eu
        replace hP : va_P D zCl ((bX4 ah an am af ai aj al ag cy S) ++ ((bX3 an cy Sn) ++ ((bX3 am cy Sm) ++ ((bX1 ag cy Sg_107))))) H := hP
        replace hD : va_D A ((bX4 ah an am af ai aj al ag cy S) ++ ((bX3 an cy Sn) ++ ((bX3 am cy Sm) ++ ((bX1 ag cy Sg_107))))) := hD
        refine lv_iload hx hb dX4_seeds_110 (lv_at hl 3 rfl) ?_
        refine lv_aload_n hx hb dX4_seeds_112 rfl (lv_at hl 0 rfl) ?_
        refine va_get (D := D) (ci := 4) (v := .ref (ag 99)) (C := RX4) (T := TX4) (N := 12) hx hb htB ziX4 hown hK hP 0 rfl rfl 7 (by decide) (htB _ zm_165) (fun _ h9 => h9) rfl dX4_seeds_113 ?_
        have hPc : va_P D zCl (bX1 ag cy Sg_107) H := hP.sub [10, 11, 12, 13, 14, 15, 16, 17, 18, 19, 20] rfl
        refine zc_r (va_runV (As := []) (rest := [.int x4]) ⟨hx, hb, hml, hown, htB⟩ (c_X1_countHeldFor l D cy ag Sg_107 h) (cwV 0 htB (zgV zm_190 zm_192 zm_193 zm_57 zm_191) rfl rfl rfl hd_X1_countHeldFor ⟨Nat.le_of_ble_eq_true rfl, Nat.le_of_ble_eq_true rfl⟩) ⟨zR_blind, va_recv hK hP (ci := 1) (q0 := 10) rfl rfl, zR_pre hPc hK hN⟩ rfl rfl hl.1 rfl (lv_room (Nat.le_of_ble_eq_true rfl)) dX4_seeds_116 ⟨Nat.zero_le _, Nat.zero_le _⟩) (fun r116 h => ?_)
        refine lv_iadd hx hb dX4_seeds_119 ?_
        refine lv_topi (fun y120 ey120 => ?_)
        replace h := h y120 ey120
        refine lv_istore (lv' := [(4, .int y120), (0, .ref (ah 99)), (1, .int i1), (3, .int x3), (5, .int x5)]) hx hb dX4_seeds_120 hl (by decide) rfl (fun ls hl => ?_)
        obtain ⟨y122, ey122⟩ : ∃ z : Int32, z = (x5 + (1 : Int32)) := ⟨_, rfl⟩
        replace h := h y122 ey122
        refine lv_iinc (v := y122) (lv' := [(5, .int y122), (4, .int y120), (0, .ref (ah 99)), (1, .int i1), (3, .int x3)]) hx hb dX4_seeds_122 hl (k := 4) rfl (by rw [ey122]; rfl) (by decide) rfl (fun ls hl => ?_)
        refine lv_goto (tgt := 44) hx hb dX4_seeds_125 (by decide) ?_
        exact ih44 x3 y120 y122 S Sm Sg_107 h H locs hP hD hS ls (lv_sub hl [2, 3, 4, 1, 0] rfl)
      have L53 : ∀ (k53 : Nat) (x3 : Int32) (x4 : Int32) (x5 : Int32) (x6 : Int32) (S : zT) (Sm : zT) (Sg : zT), wpl_X4_seeds_53 Sn i1 i2 Q (wpl_X4_seeds_44 Sn i1 i2 Q k44) k53 x3 x4 x5 x6 S Sm Sg → ∀ (H : Heap) (locs : List Loc), va_P D zCl ((bX4 ah an am af ai aj al ag cy S) ++ ((bX3 an cy Sn) ++ ((bX3 am cy Sm) ++ ((bX1 ag cy Sg))))) H → va_D A ((bX4 ah an am af ai aj al ag cy S) ++ ((bX3 an cy Sn) ++ ((bX3 am cy Sm) ++ ((bX1 ag cy Sg))))) → va_S A s.heap H locs → ∀ ls : Array Slot, lv_has ls 7 [(0, .ref (ah 99)), (1, .int i1), (3, .int x3), (4, .int x4), (5, .int x5), (6, .int x6)] → W p l e rm_X4_seeds s m ([.ref (ah 99), .int i1, .int i2] : List Value).toArray below meth c H locs 0 0 (MQ below (va_Qi (S := zT × zT × zT) (fun (r : Int32) (u : zT × zT × zT) => Q r (u.1) (u.2.1) (u.2.2)) (fun u t => va_P D zCl ((fun (u : zT × zT × zT) => ((bX4 ah an am af ai aj al ag cy (u.1)) ++ ((bX3 an cy Sn) ++ ((bX3 am cy (u.2.1)) ++ ((bX1 ag cy (u.2.2))))))) u) t.heap) A) ([.ref (ah 99), .int i1, .int i2] : List Value).toArray s 0 0 A) (F0 m 53 ls []) := by
        intro k53
        induction k53 with
        | zero => exact fun x3 x4 x5 x6 S Sm Sg h => False.elim h
        | succ k53 ih53 =>
          intro x3 x4 x5 x6 S Sm Sg h H locs hP hD hS ls hl
          refine lv_iload hx hb dX4_seeds_53 (lv_at hl 5 rfl) ?_
          refine lv_aload_n hx hb dX4_seeds_55 rfl (lv_at hl 0 rfl) ?_
          refine va_get (D := D) (ci := 4) (v := .ref (am 99)) (C := RX4) (T := TX4) (N := 12) hx hb htB ziX4 hown hK hP 0 rfl rfl 1 (by decide) (htB _ zm_204) (fun _ h9 => h9) rfl dX4_seeds_56 ?_
          refine va_getN (D := D) (ci := 3) (v := .int (Sm 2 0)) (C := RX3) (T := TX3) (N := 3) hx hb htB ziX3 hown hK hP 7 rfl rfl 2 (by decide) (va_Nw.use rfl (hN _ zm_164)) (fun _ h9 => h9) rfl dX4_seeds_59 ?_
          refine lv_icmp_ge (tgt := 99) hx hb dX4_seeds_62 (by decide) (fun c62 => ?_) (fun c62 => ?_)
          · replace h := And.left h c62
            exact L99 x3 x4 x5 S Sm Sg h H locs hP hD hS ls (lv_sub hl [0, 1, 2, 3, 4] rfl)
          · replace h := And.right h c62
            refine lv_iload_n hx hb dX4_seeds_65 rfl (lv_at hl 2 rfl) ?_
            refine lv_ldc (v := (1664525 : Int32)) hx hb hown (htB _ zm_241) dX4_seeds_66 ?_
            refine lv_imul hx hb dX4_seeds_68 ?_
            refine lv_ldc (v := (1013904223 : Int32)) hx hb hown (htB _ zm_242) dX4_seeds_69 ?_
            refine lv_iadd hx hb dX4_seeds_71 ?_
            refine lv_topi (fun y72 ey72 => ?_)
            replace h := h y72 ey72
            refine lv_istore_n (lv' := [(3, .int y72), (0, .ref (ah 99)), (1, .int i1), (4, .int x4), (5, .int x5), (6, .int x6)]) hx hb dX4_seeds_72 rfl hl (by decide) rfl (fun ls hl => ?_)
            refine lv_aload_n hx hb dX4_seeds_73 rfl (lv_at hl 1 rfl) ?_
            refine va_get (D := D) (ci := 4) (v := .ref (am 99)) (C := RX4) (T := TX4) (N := 12) hx hb htB ziX4 hown hK hP 0 rfl rfl 1 (by decide) (htB _ zm_204) (fun _ h9 => h9) rfl dX4_seeds_74 ?_
            refine lv_iload hx hb dX4_seeds_77 (lv_at hl 5 rfl) ?_
            refine lv_iconst (v := (5 : Int32)) hx hb dX4_seeds_79 (by decide) ?_
            refine lv_iload_n hx hb dX4_seeds_80 rfl (lv_at hl 0 rfl) ?_
            refine lv_ldc (v := (2147483647 : Int32)) hx hb hown (htB _ zm_243) dX4_seeds_81 ?_
            refine lv_iand hx hb dX4_seeds_83 ?_
            refine lv_sipush (v := (256 : Int32)) hx hb dX4_seeds_84 (by decide) ?_
            refine lv_idiv hx hb dX4_seeds_87 (And.left h) ?_
            replace h := And.right h
            refine lv_iconst (v := (2 : Int32)) hx hb dX4_seeds_88 (by decide) ?_
            refine lv_irem hx hb dX4_seeds_89 (And.left h) ?_
            replace h := And.right h
            have hPc : va_P D zCl (bX3 am cy Sm) H := hP.sub [7, 8, 9] rfl
            have hDc : va_D A (bX3 am cy Sm) := hD.sub [7, 8, 9] (by decide) rfl
            refine zc_v (ws' := fun u => ((bX4 ah an am af ai aj al ag cy S) ++ ((bX3 an cy Sn) ++ ((bX3 am cy u) ++ ((bX1 ag cy Sg)))))) (va_runV (As := [.int x6, .int (5 : Int32), .int (((y72 &&& (2147483647 : Int32)) / (256 : Int32)) - ((y72 &&& (2147483647 : Int32)) / (256 : Int32)) / (2 : Int32) * (2 : Int32))]) (rest := []) ⟨hx, hb, hml, hown, htB⟩ (c_X3_tell l D cy am H.size x6 (5 : Int32) (((y72 &&& (2147483647 : Int32)) / (256 : Int32)) - ((y72 &&& (2147483647 : Int32)) / (256 : Int32)) / (2 : Int32) * (2 : Int32)) Sm h) (cwV 3 htB (zgV zm_244 zm_127 zm_128 zm_28 zm_126) rfl rfl rfl hd_X3_tell ⟨Nat.le_of_ble_eq_true rfl, Nat.le_of_ble_eq_true rfl⟩) ⟨zM_blind, va_recv hK hP (ci := 3) (q0 := 7) rfl rfl, zM_pre hPc hK hN hDc⟩ rfl rfl hl.1 rfl (lv_room (Nat.le_of_ble_eq_true rfl)) dX4_seeds_90 ⟨Nat.zero_le _, Nat.zero_le _⟩) hS hA hP hD [7, 8, 9] [0, 1, 2, 3, 4, 5, 6, 10, 11, 12, 13, 14, 15, 16, 17, 18, 19, 20] [0, 1, 2, 3, 4, 5, 6, 18, 19, 20, 7, 8, 9, 10, 11, 12, 13, 14, 15, 16, 17] (by decide) rfl (by decide) (by decide) rfl (fun u => rfl) (fun u => rfl) (fun u => rfl) (fun u H locs h hP hD hS => ?_)
            obtain ⟨Sm_90, eu⟩ : ∃ z, z = u := ⟨_, rfl⟩
            subst eu
            replace hP : va_P D zCl ((bX4 ah an am af ai aj al ag cy S) ++ ((bX3 an cy Sn) ++ ((bX3 am cy Sm_90) ++ ((bX1 ag cy Sg))))) H := hP
            replace hD : va_D A ((bX4 ah an am af ai aj al ag cy S) ++ ((bX3 an cy Sn) ++ ((bX3 am cy Sm_90) ++ ((bX1 ag cy Sg))))) := hD
            obtain ⟨y93, ey93⟩ : ∃ z : Int32, z = (x6 + (1 : Int32)) := ⟨_, rfl⟩
            replace h := h y93 ey93
            refine lv_iinc (v := y93) (lv' := [(6, .int y93), (3, .int y72), (0, .ref (ah 99)), (1, .int i1), (4, .int x4), (5, .int x5)]) hx hb dX4_seeds_93 hl (k := 5) rfl (by rw [ey93]; rfl) (by decide) rfl (fun ls hl => ?_)
            refine lv_goto (tgt := 53) hx hb dX4_seeds_96 (by decide) ?_
            exact ih53 y72 x4 x5 y93 S Sm_90 Sg h H locs hP hD hS ls (lv_sub hl [2, 3, 1, 4, 5, 0] rfl)
      intro x3 x4 x5 S Sm Sg h H locs hP hD hS ls hl
      refine lv_iload hx hb dX4_seeds_44 (lv_at hl 4 rfl) ?_
      refine lv_iload_n hx hb dX4_seeds_46 rfl (lv_at hl 1 rfl) ?_
      refine lv_icmp_ge (tgt := 128) hx hb dX4_seeds_47 (by decide) (fun c47 => ?_) (fun c47 => ?_)
      · replace h := And.left h c47
        refine lv_iload hx hb dX4_seeds_128 (lv_at hl 3 rfl) ?_
        exact W.iret (v := x4) hx hb hr (fun t ht hW => ⟨⟨_, (S, Sm, Sg), rfl, h, zP_h ht hP⟩, hS.F ht⟩) hS.2.2 dX4_seeds_130
      · replace h := And.right h c47
        refine lv_iconst (v := (0 : Int32)) hx hb dX4_seeds_50 (by decide) ?_
        refine lv_istore (lv' := [(6, .int (0 : Int32)), (0, .ref (ah 99)), (1, .int i1), (3, .int x3), (4, .int x4), (5, .int x5)]) hx hb dX4_seeds_51 hl (by decide) rfl (fun ls hl => ?_)
        obtain ⟨nn, h⟩ := h
        exact L53 nn x3 x4 x5 (0 : Int32) S Sm Sg h H locs hP hD hS ls (lv_sub hl [1, 2, 3, 4, 5, 0] rfl)
  refine lv_iload_n hx hb dX4_seeds_0 rfl (lv_at hl 1 rfl) ?_
  refine lv_iconst (v := (1 : Int32)) hx hb dX4_seeds_1 (by decide) ?_
  refine lv_icmp_ge (tgt := 12) hx hb dX4_seeds_2 (by decide) (fun c2 => ?_) (fun c2 => ?_)
  · replace h := And.left h c2
    refine lv_iload_n hx hb dX4_seeds_12 rfl (lv_at hl 1 rfl) ?_
    refine lv_bipush (v := (20 : Int32)) hx hb dX4_seeds_13 (by decide) ?_
    refine lv_icmp_le (tgt := 25) hx hb dX4_seeds_15 (by decide) (fun c15 => ?_) (fun c15 => ?_)
    · replace h := And.left h c15
      refine lv_aload_n hx hb dX4_seeds_25 rfl (lv_at hl 0 rfl) ?_
      refine va_get (D := D) (ci := 4) (v := .ref (am 99)) (C := RX4) (T := TX4) (N := 12) hx hb htB ziX4 hown hK hP 0 rfl rfl 1 (by decide) (htB _ zm_204) (fun _ h9 => h9) rfl dX4_seeds_26 ?_
      refine lv_aload_n hx hb dX4_seeds_29 rfl (lv_at hl 0 rfl) ?_
      refine va_get (D := D) (ci := 4) (v := .ref (an 99)) (C := RX4) (T := TX4) (N := 12) hx hb htB ziX4 hown hK hP 0 rfl rfl 0 (by decide) (htB _ zm_155) (fun _ h9 => h9) rfl dX4_seeds_30 ?_
      have hPc : va_P D zCl ((bX3 am cy Sm) ++ ((bX3 an cy Sn))) H := hP.sub [7, 8, 9, 4, 5, 6] rfl
      have hDc : va_D A ((bX3 am cy Sm) ++ ((bX3 an cy Sn))) := hD.sub [7, 8, 9, 4, 5, 6] (by decide) rfl
      refine zc_v (ws' := fun u => ((bX4 ah an am af ai aj al ag cy S) ++ ((bX3 an cy Sn) ++ ((bX3 am cy u) ++ ((bX1 ag cy Sg)))))) (va_runV (As := [.ref (an 99)]) (rest := []) ⟨hx, hb, hml, hown, htB⟩ (c_X3_become l D cy am an H.size Sn Sm h) (cwV 1 htB (zgV zm_205 zm_207 zm_208 zm_28 zm_206) rfl rfl rfl hd_X3_become ⟨Nat.le_of_ble_eq_true rfl, Nat.le_of_ble_eq_true rfl⟩) ⟨zM_blind, va_recv hK hP (ci := 3) (q0 := 7) rfl rfl, zM_pre hPc hK hN hDc⟩ rfl rfl hl.1 rfl (lv_room (Nat.le_of_ble_eq_true rfl)) dX4_seeds_33 ⟨Nat.zero_le _, Nat.zero_le _⟩) hS hA hP hD [7, 8, 9, 4, 5, 6] [0, 1, 2, 3, 10, 11, 12, 13, 14, 15, 16, 17, 18, 19, 20] [0, 1, 2, 3, 18, 19, 20, 15, 16, 17, 4, 5, 6, 7, 8, 9, 10, 11, 12, 13, 14] (by decide) rfl (by decide) (by decide) rfl (fun u => rfl) (fun u => rfl) (fun u => rfl) (fun u H locs h hP hD hS => ?_)
      obtain ⟨Sm_33, eu⟩ : ∃ z, z = u := ⟨_, rfl⟩
      subst eu
      replace hP : va_P D zCl ((bX4 ah an am af ai aj al ag cy S) ++ ((bX3 an cy Sn) ++ ((bX3 am cy Sm_33) ++ ((bX1 ag cy Sg))))) H := hP
      replace hD : va_D A ((bX4 ah an am af ai aj al ag cy S) ++ ((bX3 an cy Sn) ++ ((bX3 am cy Sm_33) ++ ((bX1 ag cy Sg))))) := hD
      refine lv_iload_n hx hb dX4_seeds_36 rfl (lv_at hl 2 rfl) ?_
      refine lv_istore_n (lv' := [(3, .int i2), (0, .ref (ah 99)), (1, .int i1), (2, .int i2)]) hx hb dX4_seeds_37 rfl hl (by decide) rfl (fun ls hl => ?_)
      refine lv_iconst (v := (0 : Int32)) hx hb dX4_seeds_38 (by decide) ?_
      refine lv_istore (lv' := [(4, .int (0 : Int32)), (3, .int i2), (0, .ref (ah 99)), (1, .int i1), (2, .int i2)]) hx hb dX4_seeds_39 hl (by decide) rfl (fun ls hl => ?_)
      refine lv_iconst (v := (0 : Int32)) hx hb dX4_seeds_41 (by decide) ?_
      refine lv_istore (lv' := [(5, .int (0 : Int32)), (4, .int (0 : Int32)), (3, .int i2), (0, .ref (ah 99)), (1, .int i1), (2, .int i2)]) hx hb dX4_seeds_42 hl (by decide) rfl (fun ls hl => ?_)
      obtain ⟨nn, h⟩ := h
      exact L44 nn i2 (0 : Int32) (0 : Int32) S Sm_33 Sg h H locs hP hD hS ls (lv_sub hl [3, 4, 2, 1, 0] rfl)
    · replace h := And.right h c15
      refine lv_aload_n hx hb dX4_seeds_18 rfl (lv_at hl 0 rfl) ?_
      refine lv_bipush (v := (-6 : Int32)) hx hb dX4_seeds_19 (by decide) ?_
      have hPc : va_P D zCl (bX4 ah an am af ai aj al ag cy S) H := hP.sub [0, 1, 2, 3] rfl
      have hDc : va_D A (bX4 ah an am af ai aj al ag cy S) := hD.sub [0, 1, 2, 3] (by decide) rfl
      refine zc_i (ws' := fun u => ((bX4 ah an am af ai aj al ag cy u) ++ ((bX3 an cy Sn) ++ ((bX3 am cy Sm) ++ ((bX1 ag cy Sg)))))) (va_runV (As := [.int (-6 : Int32)]) (rest := []) ⟨hx, hb, hml, hown, htB⟩ (c_X4_refuse l D cy ah an am af ai aj al ag H.size (-6 : Int32) S h) (cwV 1 htB (zgV zm_145 zm_147 zm_148 zm_4 zm_146) rfl rfl rfl hd_X4_refuse ⟨Nat.le_of_ble_eq_true rfl, Nat.le_of_ble_eq_true rfl⟩) ⟨zM_blind, va_recv hK hP (ci := 4) (q0 := 0) rfl rfl, zM_pre hPc hK hN hDc⟩ rfl rfl hl.1 rfl (lv_room (Nat.le_of_ble_eq_true rfl)) dX4_seeds_21 ⟨Nat.zero_le _, Nat.zero_le _⟩) hS hA hP hD [0, 1, 2, 3] [4, 5, 6, 7, 8, 9, 10, 11, 12, 13, 14, 15, 16, 17, 18, 19, 20] [17, 18, 19, 20, 0, 1, 2, 3, 4, 5, 6, 7, 8, 9, 10, 11, 12, 13, 14, 15, 16] (by decide) rfl (by decide) (by decide) rfl (fun u => rfl) (fun u => rfl) (fun u => rfl) (fun r21 u H locs h hP hD hS => ?_)
      obtain ⟨S_21, eu⟩ : ∃ z, z = u := ⟨_, rfl⟩
      subst eu
      replace hP : va_P D zCl ((bX4 ah an am af ai aj al ag cy S_21) ++ ((bX3 an cy Sn) ++ ((bX3 am cy Sm) ++ ((bX1 ag cy Sg))))) H := hP
      replace hD : va_D A ((bX4 ah an am af ai aj al ag cy S_21) ++ ((bX3 an cy Sn) ++ ((bX3 am cy Sm) ++ ((bX1 ag cy Sg))))) := hD
      exact W.iret (v := r21) hx hb hr (fun t ht hW => ⟨⟨_, (S_21, Sm, Sg), rfl, h, zP_h ht hP⟩, hS.F ht⟩) hS.2.2 dX4_seeds_24
  · replace h := And.right h c2
    refine lv_aload_n hx hb dX4_seeds_5 rfl (lv_at hl 0 rfl) ?_
    refine lv_bipush (v := (-4 : Int32)) hx hb dX4_seeds_6 (by decide) ?_
    have hPc : va_P D zCl (bX4 ah an am af ai aj al ag cy S) H := hP.sub [0, 1, 2, 3] rfl
    have hDc : va_D A (bX4 ah an am af ai aj al ag cy S) := hD.sub [0, 1, 2, 3] (by decide) rfl
    refine zc_i (ws' := fun u => ((bX4 ah an am af ai aj al ag cy u) ++ ((bX3 an cy Sn) ++ ((bX3 am cy Sm) ++ ((bX1 ag cy Sg)))))) (va_runV (As := [.int (-4 : Int32)]) (rest := []) ⟨hx, hb, hml, hown, htB⟩ (c_X4_refuse l D cy ah an am af ai aj al ag H.size (-4 : Int32) S h) (cwV 1 htB (zgV zm_145 zm_147 zm_148 zm_4 zm_146) rfl rfl rfl hd_X4_refuse ⟨Nat.le_of_ble_eq_true rfl, Nat.le_of_ble_eq_true rfl⟩) ⟨zM_blind, va_recv hK hP (ci := 4) (q0 := 0) rfl rfl, zM_pre hPc hK hN hDc⟩ rfl rfl hl.1 rfl (lv_room (Nat.le_of_ble_eq_true rfl)) dX4_seeds_8 ⟨Nat.zero_le _, Nat.zero_le _⟩) hS hA hP hD [0, 1, 2, 3] [4, 5, 6, 7, 8, 9, 10, 11, 12, 13, 14, 15, 16, 17, 18, 19, 20] [17, 18, 19, 20, 0, 1, 2, 3, 4, 5, 6, 7, 8, 9, 10, 11, 12, 13, 14, 15, 16] (by decide) rfl (by decide) (by decide) rfl (fun u => rfl) (fun u => rfl) (fun u => rfl) (fun r8 u H locs h hP hD hS => ?_)
    obtain ⟨S_8, eu⟩ : ∃ z, z = u := ⟨_, rfl⟩
    subst eu
    replace hP : va_P D zCl ((bX4 ah an am af ai aj al ag cy S_8) ++ ((bX3 an cy Sn) ++ ((bX3 am cy Sm) ++ ((bX1 ag cy Sg))))) H := hP
    replace hD : va_D A ((bX4 ah an am af ai aj al ag cy S_8) ++ ((bX3 an cy Sn) ++ ((bX3 am cy Sm) ++ ((bX1 ag cy Sg))))) := hD
    exact W.iret (v := r8) hx hb hr (fun t ht hW => ⟨⟨_, (S_8, Sm, Sg), rfl, h, zP_h ht hP⟩, hS.F ht⟩) hS.2.2 dX4_seeds_11
set_option maxHeartbeats 4000000 in
set_option maxRecDepth 100000 in
theorem c_X4_row (l : Launch) (D : va_G) (cy : ClassId) (ah : Nat → Nat) (an : Nat → Nat) (am : Nat → Nat) (af : Nat → Nat) (ai : Nat → Nat) (aj : Nat → Nat) (al : Nat → Nat) (ag : Nat → Nat) (sz : Nat) (i1 : Int32) (S : zT) {Q : Int32 → zT → Prop} (h : wp_X4_row i1 S Q) : Met l yX4_row w_X4_row rm_X4_row (va_Pc [.ref (ah 99), .int i1] (zM D cy (bX4 ah an am af ai aj al ag cy S) sz)) (va_Qi (S := zT) (fun (r : Int32) (u : zT) => Q r u) (fun u t => va_P D zCl ((fun (u : zT) => (bX4 ah an am af ai aj al ag cy u)) u) t.heap) (va_A (bX4 ah an am af ai aj al ag cy S) sz)) 0 0 (va_A (bX4 ah an am af ai aj al ag cy S) sz) := by
  refine zOf_i (by decide) (Nat.le_of_ble_eq_true rfl) ?_
  intro p e s m below meth c ls A H locs hx hb hr hml hown htB hlocks hK hN hP hD hS hA hl
  replace hl : lv_has ls 2 [(0, .ref (ah 99)), (1, .int i1)] := hl
  have L26 : ∀ (S : zT), wpb_X4_row_26 i1 Q S → ∀ (H : Heap) (locs : List Loc), va_P D zCl (bX4 ah an am af ai aj al ag cy S) H → va_D A (bX4 ah an am af ai aj al ag cy S) → va_S A s.heap H locs → ∀ ls : Array Slot, lv_has ls 2 [(0, .ref (ah 99))] → W p l e rm_X4_row s m ([.ref (ah 99), .int i1] : List Value).toArray below meth c H locs 0 0 (MQ below (va_Qi (S := zT) (fun (r : Int32) (u : zT) => Q r u) (fun u t => va_P D zCl ((fun (u : zT) => (bX4 ah an am af ai aj al ag cy u)) u) t.heap) A) ([.ref (ah 99), .int i1] : List Value).toArray s 0 0 A) (F0 m 26 ls []) := by
    intro S h H locs hP hD hS ls hl
    refine lv_aload_n hx hb dX4_row_26 rfl (lv_at hl 0 rfl) ?_
    refine lv_bipush (v := (-6 : Int32)) hx hb dX4_row_27 (by decide) ?_
    refine zc_if (ws' := fun u => (bX4 ah an am af ai aj al ag cy u)) (va_runV (As := [.int (-6 : Int32)]) (rest := []) ⟨hx, hb, hml, hown, htB⟩ (c_X4_refuse l D cy ah an am af ai aj al ag H.size (-6 : Int32) S h) (cwV 1 htB (zgV zm_145 zm_147 zm_148 zm_4 zm_146) rfl rfl rfl hd_X4_refuse ⟨Nat.le_of_ble_eq_true rfl, Nat.le_of_ble_eq_true rfl⟩) ⟨zM_blind, va_recv hK hP (ci := 4) (q0 := 0) rfl rfl, zM_pre hP hK hN hD⟩ rfl rfl hl.1 rfl (lv_room (Nat.le_of_ble_eq_true rfl)) dX4_row_29 ⟨Nat.zero_le _, Nat.zero_le _⟩) hS hA hP hD (fun u => rfl) (fun u => rfl) (fun r29 u H locs h hP hD hS => ?_)
    obtain ⟨S_29, eu⟩ : ∃ z, z = u := ⟨_, rfl⟩
    subst eu
    replace hP : va_P D zCl (bX4 ah an am af ai aj al ag cy S_29) H := hP
    replace hD : va_D A (bX4 ah an am af ai aj al ag cy S_29) := hD
    exact W.iret (v := r29) hx hb hr (fun t ht hW => ⟨⟨_, S_29, rfl, h, zP_h ht hP⟩, hS.F ht⟩) hS.2.2 dX4_row_32
  refine lv_iload_n hx hb dX4_row_0 rfl (lv_at hl 1 rfl) ?_
  refine lv_if_ge (tgt := 11) hx hb dX4_row_1 (by decide) (fun c1 => ?_) (fun c1 => ?_)
  · replace h := And.left h c1
    refine lv_iload_n hx hb dX4_row_11 rfl (lv_at hl 1 rfl) ?_
    refine lv_bipush (v := (9 : Int32)) hx hb dX4_row_12 (by decide) ?_
    refine lv_icmp_gt (tgt := 26) hx hb dX4_row_14 (by decide) (fun c14 => ?_) (fun c14 => ?_)
    · replace h := And.left h c14
      exact L26 S h H locs hP hD hS ls (lv_sub hl [0] rfl)
    · replace h := And.right h c14
      refine lv_aload_n hx hb dX4_row_17 rfl (lv_at hl 0 rfl) ?_
      refine va_get (D := D) (ci := 4) (v := .int (S 10 0)) (C := RX4) (T := TX4) (N := 12) hx hb htB ziX4 hown hK hP 0 rfl rfl 10 (by decide) (htB _ zm_245) (fun _ h9 => h9) rfl dX4_row_18 ?_
      refine lv_bipush (v := (8 : Int32)) hx hb dX4_row_21 (by decide) ?_
      refine lv_icmp_lt (tgt := 33) hx hb dX4_row_23 (by decide) (fun c23 => ?_) (fun c23 => ?_)
      · replace h := And.left h c23
        refine lv_aload_n hx hb dX4_row_33 rfl (lv_at hl 0 rfl) ?_
        refine va_get (D := D) (ci := 4) (v := .ref (ah 9)) (C := RX4) (T := TX4) (N := 12) hx hb htB ziX4 hown hK hP 0 rfl rfl 9 (by decide) (htB _ zm_246) (fun _ h9 => h9) rfl dX4_row_34 ?_
        refine lv_aload_n hx hb dX4_row_37 rfl (lv_at hl 0 rfl) ?_
        refine va_get (D := D) (ci := 4) (v := .int (S 10 0)) (C := RX4) (T := TX4) (N := 12) hx hb htB ziX4 hown hK hP 0 rfl rfl 10 (by decide) (htB _ zm_245) (fun _ h9 => h9) rfl dX4_row_38 ?_
        refine lv_iload_n hx hb dX4_row_41 rfl (lv_at hl 1 rfl) ?_
        have hPc : va_P D zCl [((ah 9), .inl (cy, 8, .inl (S 9)))] H := hP.sub [2] rfl
        have hDc : va_D A [((ah 9), .inl (cy, 8, .inl (S 9)))] := hD.sub [2] (by decide) rfl
        refine zc_v (ws' := fun u => (bX4 ah an am af ai aj al ag cy (va_up S 9 u))) (va_runS (As := [.ref (ah 9), .int (S 10 0), .int i1]) (rest := []) ⟨hx, hb, hml, hown, htB⟩ (c_X4_put l D cy (ah 9) H.size 8 (S 10 0) i1 (S 9) h) (cwS 3 htB (zgS zm_144 zm_5 zm_4 zm_3) rfl rfl rfl hd_X4_put ⟨Nat.le_of_ble_eq_true rfl, Nat.le_of_ble_eq_true rfl⟩) ⟨zM_blind, zM_pre hPc hK hN hDc⟩ rfl rfl hl.1 rfl (lv_room (Nat.le_of_ble_eq_true rfl)) dX4_row_42 ⟨Nat.zero_le _, Nat.zero_le _⟩) hS hA hP hD [2] [0, 1, 3] [0, 1, 3, 2] (by decide) rfl (by decide) (by decide) rfl (fun u => rfl) (fun u => rfl) (fun u => rfl) (fun u H locs h hP hD hS => ?_)
        obtain ⟨gf0_42, eu⟩ : ∃ z, z = u := ⟨_, rfl⟩
        subst eu
        replace hP : va_P D zCl (bX4 ah an am af ai aj al ag cy (va_up S 9 gf0_42)) H := hP
        replace hD : va_D A (bX4 ah an am af ai aj al ag cy (va_up S 9 gf0_42)) := hD
        obtain ⟨S_42, eS_42⟩ : ∃ z : zT, z = (va_up S 9 gf0_42) := ⟨_, rfl⟩
        replace h := h S_42 eS_42
        replace hP : va_P D zCl (bX4 ah an am af ai aj al ag cy S_42) H := by rw [eS_42]; exact hP
        replace hD : va_D A (bX4 ah an am af ai aj al ag cy S_42) := by rw [eS_42]; exact hD
        refine lv_aload_n hx hb dX4_row_45 rfl (lv_at hl 0 rfl) ?_
        refine lv_dup hx hb dX4_row_46 rfl ?_
        refine va_get (D := D) (ci := 4) (v := .int (S_42 10 0)) (C := RX4) (T := TX4) (N := 12) hx hb htB ziX4 hown hK hP 0 rfl rfl 10 (by decide) (htB _ zm_245) (fun _ h9 => h9) rfl dX4_row_47 ?_
        refine lv_iconst (v := (1 : Int32)) hx hb dX4_row_50 (by decide) ?_
        refine lv_iadd hx hb dX4_row_51 ?_
        refine va_put (D := D) (ci := 4) (v := .int ((S_42 10 0) + (1 : Int32))) (ty := .int) (C := RX4) (T := TX4) (N := 12) hx hb htB ziX4 tyX4 tyX4_ok nmX4 hown hK hP hD hS 0 rfl rfl 10 (by decide) (htB _ zm_245) (fun _ h9 => h9) rfl (tyX4_ok 10 (by decide)) rfl rfl (Nat.le_of_ble_eq_true rfl) dX4_row_52 (fun H locs hP hD hS => ?_)
        obtain ⟨S_52, eS_52⟩ : ∃ z : zT, z = (va_up S_42 10 (fun _ => ((S_42 10 0) + (1 : Int32)))) := ⟨_, rfl⟩
        replace h := h S_52 eS_52
        replace hP : va_P D zCl (bX4 ah an am af ai aj al ag cy S_52) H := by rw [eS_52]; exact hP
        replace hD : va_D A (bX4 ah an am af ai aj al ag cy S_52) := by rw [eS_52]; exact hD
        refine lv_aload_n hx hb dX4_row_55 rfl (lv_at hl 0 rfl) ?_
        refine va_get (D := D) (ci := 4) (v := .int (S_52 10 0)) (C := RX4) (T := TX4) (N := 12) hx hb htB ziX4 hown hK hP 0 rfl rfl 10 (by decide) (htB _ zm_245) (fun _ h9 => h9) rfl dX4_row_56 ?_
        exact W.iret (v := (S_52 10 0)) hx hb hr (fun t ht hW => ⟨⟨_, S_52, rfl, h, zP_h ht hP⟩, hS.F ht⟩) hS.2.2 dX4_row_59
      · replace h := And.right h c23
        exact L26 S h H locs hP hD hS ls (lv_sub hl [0] rfl)
  · replace h := And.right h c1
    refine lv_aload_n hx hb dX4_row_4 rfl (lv_at hl 0 rfl) ?_
    refine lv_bipush (v := (-4 : Int32)) hx hb dX4_row_5 (by decide) ?_
    refine zc_if (ws' := fun u => (bX4 ah an am af ai aj al ag cy u)) (va_runV (As := [.int (-4 : Int32)]) (rest := []) ⟨hx, hb, hml, hown, htB⟩ (c_X4_refuse l D cy ah an am af ai aj al ag H.size (-4 : Int32) S h) (cwV 1 htB (zgV zm_145 zm_147 zm_148 zm_4 zm_146) rfl rfl rfl hd_X4_refuse ⟨Nat.le_of_ble_eq_true rfl, Nat.le_of_ble_eq_true rfl⟩) ⟨zM_blind, va_recv hK hP (ci := 4) (q0 := 0) rfl rfl, zM_pre hP hK hN hD⟩ rfl rfl hl.1 rfl (lv_room (Nat.le_of_ble_eq_true rfl)) dX4_row_7 ⟨Nat.zero_le _, Nat.zero_le _⟩) hS hA hP hD (fun u => rfl) (fun u => rfl) (fun r7 u H locs h hP hD hS => ?_)
    obtain ⟨S_7, eu⟩ : ∃ z, z = u := ⟨_, rfl⟩
    subst eu
    replace hP : va_P D zCl (bX4 ah an am af ai aj al ag cy S_7) H := hP
    replace hD : va_D A (bX4 ah an am af ai aj al ag cy S_7) := hD
    exact W.iret (v := r7) hx hb hr (fun t ht hW => ⟨⟨_, S_7, rfl, h, zP_h ht hP⟩, hS.F ht⟩) hS.2.2 dX4_row_10
set_option maxHeartbeats 4000000 in
set_option maxRecDepth 100000 in
theorem c_X4_judge (l : Launch) (D : va_G) (cy : ClassId) (ah : Nat → Nat) (an : Nat → Nat) (am : Nat → Nat) (af : Nat → Nat) (ai : Nat → Nat) (aj : Nat → Nat) (al : Nat → Nat) (ag : Nat → Nat) (sz : Nat) (Sn : zT) (S : zT) (Sg : zT) {Q : Int32 → zT → zT → Prop} (h : wp_X4_judge Sn S Sg Q) : Met l yX4_judge w_X4_judge rm_X4_judge (va_Pc [.ref (ah 99)] (zM D cy ((bX4 ah an am af ai aj al ag cy S) ++ ((bX3 an cy Sn) ++ ((bX1 ag cy Sg)))) sz)) (va_Qi (S := zT × zT) (fun (r : Int32) (u : zT × zT) => Q r (u.1) (u.2)) (fun u t => va_P D zCl ((fun (u : zT × zT) => ((bX4 ah an am af ai aj al ag cy (u.1)) ++ ((bX3 an cy Sn) ++ ((bX1 ag cy (u.2)))))) u) t.heap) (va_A ((bX4 ah an am af ai aj al ag cy S) ++ ((bX3 an cy Sn) ++ ((bX1 ag cy Sg)))) sz)) 0 0 (va_A ((bX4 ah an am af ai aj al ag cy S) ++ ((bX3 an cy Sn) ++ ((bX1 ag cy Sg)))) sz) := by
  refine zOf_i (by decide) (Nat.le_of_ble_eq_true rfl) ?_
  intro p e s m below meth c ls A H locs hx hb hr hml hown htB hlocks hK hN hP hD hS hA hl
  replace hl : lv_has ls 4 [(0, .ref (ah 99))] := hl
  have L70 : ∀ (x1 : Int32) (x2 : Int32) (S : zT) (Sg : zT), wpb_X4_judge_70 Sn Q x1 x2 S Sg → ∀ (H : Heap) (locs : List Loc), va_P D zCl ((bX4 ah an am af ai aj al ag cy S) ++ ((bX3 an cy Sn) ++ ((bX1 ag cy Sg)))) H → va_D A ((bX4 ah an am af ai aj al ag cy S) ++ ((bX3 an cy Sn) ++ ((bX1 ag cy Sg)))) → va_S A s.heap H locs → ∀ ls : Array Slot, lv_has ls 4 [(0, .ref (ah 99)), (1, .int x1), (2, .int x2)] → W p l e rm_X4_judge s m ([.ref (ah 99)] : List Value).toArray below meth c H locs 0 0 (MQ below (va_Qi (S := zT × zT) (fun (r : Int32) (u : zT × zT) => Q r (u.1) (u.2)) (fun u t => va_P D zCl ((fun (u : zT × zT) => ((bX4 ah an am af ai aj al ag cy (u.1)) ++ ((bX3 an cy Sn) ++ ((bX1 ag cy (u.2)))))) u) t.heap) A) ([.ref (ah 99)] : List Value).toArray s 0 0 A) (F0 m 70 ls []) := by
    intro x1 x2 S Sg h H locs hP hD hS ls hl
    refine lv_iload_n hx hb dX4_judge_70 rfl (lv_at hl 1 rfl) ?_
    refine lv_aload_n hx hb dX4_judge_71 rfl (lv_at hl 0 rfl) ?_
    refine va_get (D := D) (ci := 4) (v := .ref (an 99)) (C := RX4) (T := TX4) (N := 12) hx hb htB ziX4 hown hK hP 0 rfl rfl 0 (by decide) (htB _ zm_155) (fun _ h9 => h9) rfl dX4_judge_72 ?_
    refine va_getN (D := D) (ci := 3) (v := .int (Sn 2 0)) (C := RX3) (T := TX3) (N := 3) hx hb htB ziX3 hown hK hP 4 rfl rfl 2 (by decide) (va_Nw.use rfl (hN _ zm_164)) (fun _ h9 => h9) rfl dX4_judge_75 ?_
    refine lv_icmp_ne (tgt := 86) hx hb dX4_judge_78 (by decide) (fun c78 => ?_) (fun c78 => ?_)
    · replace h := And.right h c78
      refine lv_iload_n hx hb dX4_judge_86 rfl (lv_at hl 2 rfl) ?_
      exact W.iret (v := x2) hx hb hr (fun t ht hW => ⟨⟨_, (S, Sg), rfl, h, zP_h ht hP⟩, hS.F ht⟩) hS.2.2 dX4_judge_87
    · replace h := And.left h c78
      refine lv_bipush (v := (-9 : Int32)) hx hb dX4_judge_81 (by decide) ?_
      refine lv_goto (tgt := 87) hx hb dX4_judge_83 (by decide) ?_
      exact W.iret (v := (-9 : Int32)) hx hb hr (fun t ht hW => ⟨⟨_, (S, Sg), rfl, h, zP_h ht hP⟩, hS.F ht⟩) hS.2.2 dX4_judge_87
  have L35 : ∀ (k35 : Nat) (x1 : Int32) (x2 : Int32) (x3 : Int32) (S : zT) (Sg : zT), wpl_X4_judge_35 Sn Q k35 x1 x2 x3 S Sg → ∀ (H : Heap) (locs : List Loc), va_P D zCl ((bX4 ah an am af ai aj al ag cy S) ++ ((bX3 an cy Sn) ++ ((bX1 ag cy Sg)))) H → va_D A ((bX4 ah an am af ai aj al ag cy S) ++ ((bX3 an cy Sn) ++ ((bX1 ag cy Sg)))) → va_S A s.heap H locs → ∀ ls : Array Slot, lv_has ls 4 [(0, .ref (ah 99)), (1, .int x1), (2, .int x2), (3, .int x3)] → W p l e rm_X4_judge s m ([.ref (ah 99)] : List Value).toArray below meth c H locs 0 0 (MQ below (va_Qi (S := zT × zT) (fun (r : Int32) (u : zT × zT) => Q r (u.1) (u.2)) (fun u t => va_P D zCl ((fun (u : zT × zT) => ((bX4 ah an am af ai aj al ag cy (u.1)) ++ ((bX3 an cy Sn) ++ ((bX1 ag cy (u.2)))))) u) t.heap) A) ([.ref (ah 99)] : List Value).toArray s 0 0 A) (F0 m 35 ls []) := by
    intro k35
    induction k35 with
    | zero => exact fun x1 x2 x3 S Sg h => False.elim h
    | succ k35 ih35 =>
      intro x1 x2 x3 S Sg h H locs hP hD hS ls hl
      refine lv_iload_n hx hb dX4_judge_35 rfl (lv_at hl 3 rfl) ?_
      refine lv_iload_n hx hb dX4_judge_36 rfl (lv_at hl 2 rfl) ?_
      refine lv_icmp_ge (tgt := 70) hx hb dX4_judge_37 (by decide) (fun c37 => ?_) (fun c37 => ?_)
      · replace h := And.left h c37
        exact L70 x1 x2 S Sg h H locs hP hD hS ls (lv_sub hl [0, 1, 2] rfl)
      · replace h := And.right h c37
        refine lv_aload_n hx hb dX4_judge_40 rfl (lv_at hl 0 rfl) ?_
        refine va_get (D := D) (ci := 4) (v := .ref (ah 9)) (C := RX4) (T := TX4) (N := 12) hx hb htB ziX4 hown hK hP 0 rfl rfl 9 (by decide) (htB _ zm_246) (fun _ h9 => h9) rfl dX4_judge_41 ?_
        refine lv_iload_n hx hb dX4_judge_44 rfl (lv_at hl 3 rfl) ?_
        have hPc : va_P D zCl [((ah 9), .inl (cy, 8, .inl (S 9)))] H := hP.sub [2] rfl
        refine zc_r (va_runS (As := [.ref (ah 9), .int x3]) (rest := []) ⟨hx, hb, hml, hown, htB⟩ (c_X4_at l D cy (ah 9) 8 (S 9) x3 h) (cwS 2 htB (zgS zm_143 zm_14 zm_4 zm_13) rfl rfl rfl hd_X4_at ⟨Nat.le_of_ble_eq_true rfl, Nat.le_of_ble_eq_true rfl⟩) ⟨zR_blind, zR_pre hPc hK hN⟩ rfl rfl hl.1 rfl (lv_room (Nat.le_of_ble_eq_true rfl)) dX4_judge_45 ⟨Nat.zero_le _, Nat.zero_le _⟩) (fun r45 h => ?_)
        refine lv_aload_n hx hb dX4_judge_48 rfl (lv_at hl 0 rfl) ?_
        refine va_get (D := D) (ci := 4) (v := .ref (ag 99)) (C := RX4) (T := TX4) (N := 12) hx hb htB ziX4 hown hK hP 0 rfl rfl 7 (by decide) (htB _ zm_165) (fun _ h9 => h9) rfl dX4_judge_49 ?_
        refine va_getN (D := D) (ci := 1) (v := .ref (ag 0)) (C := RX1) (T := TX1) (N := 11) hx hb htB ziX1 hown hK hP 7 rfl rfl 0 (by decide) (va_Nw.use rfl (hN _ zm_170)) (fun _ h9 => h9) rfl dX4_judge_52 ?_
        refine lv_iload_n hx hb dX4_judge_55 rfl (lv_at hl 3 rfl) ?_
        have hPc : va_P D zCl [((ag 0), .inl (cy, 8, .inl (Sg 0)))] H := hP.sub [8] rfl
        refine zc_r (va_runS (As := [.ref (ag 0), .int x3]) (rest := [.int r45]) ⟨hx, hb, hml, hown, htB⟩ (c_X4_at l D cy (ag 0) 8 (Sg 0) x3 h) (cwS 2 htB (zgS zm_143 zm_14 zm_4 zm_13) rfl rfl rfl hd_X4_at ⟨Nat.le_of_ble_eq_true rfl, Nat.le_of_ble_eq_true rfl⟩) ⟨zR_blind, zR_pre hPc hK hN⟩ rfl rfl hl.1 rfl (lv_room (Nat.le_of_ble_eq_true rfl)) dX4_judge_56 ⟨Nat.zero_le _, Nat.zero_le _⟩) (fun r56 h => ?_)
        refine lv_icmp_eq (tgt := 64) hx hb dX4_judge_59 (by decide) (fun c59 => ?_) (fun c59 => ?_)
        · replace h := And.left h c59
          obtain ⟨y64, ey64⟩ : ∃ z : Int32, z = (x3 + (1 : Int32)) := ⟨_, rfl⟩
          replace h := h y64 ey64
          refine lv_iinc (v := y64) (lv' := [(3, .int y64), (0, .ref (ah 99)), (1, .int x1), (2, .int x2)]) hx hb dX4_judge_64 hl (k := 3) rfl (by rw [ey64]; rfl) (by decide) rfl (fun ls hl => ?_)
          refine lv_goto (tgt := 35) hx hb dX4_judge_67 (by decide) ?_
          exact ih35 x1 x2 y64 S Sg h H locs hP hD hS ls (lv_sub hl [1, 2, 3, 0] rfl)
        · replace h := And.right h c59
          refine lv_iload_n hx hb dX4_judge_62 rfl (lv_at hl 3 rfl) ?_
          exact W.iret (v := x3) hx hb hr (fun t ht hW => ⟨⟨_, (S, Sg), rfl, h, zP_h ht hP⟩, hS.F ht⟩) hS.2.2 dX4_judge_63
  refine lv_aload_n hx hb dX4_judge_0 rfl (lv_at hl 0 rfl) ?_
  refine va_get (D := D) (ci := 4) (v := .ref (ag 99)) (C := RX4) (T := TX4) (N := 12) hx hb htB ziX4 hown hK hP 0 rfl rfl 7 (by decide) (htB _ zm_165) (fun _ h9 => h9) rfl dX4_judge_1 ?_
  refine lv_aload_n hx hb dX4_judge_4 rfl (lv_at hl 0 rfl) ?_
  refine va_get (D := D) (ci := 4) (v := .ref (an 99)) (C := RX4) (T := TX4) (N := 12) hx hb htB ziX4 hown hK hP 0 rfl rfl 0 (by decide) (htB _ zm_155) (fun _ h9 => h9) rfl dX4_judge_5 ?_
  have hPc : va_P D zCl ((bX1 ag cy Sg) ++ ((bX3 an cy Sn))) H := hP.sub [7, 8, 9, 10, 11, 12, 13, 14, 15, 16, 17, 4, 5, 6] rfl
  have hDc : va_D A ((bX1 ag cy Sg) ++ ((bX3 an cy Sn))) := hD.sub [7, 8, 9, 10, 11, 12, 13, 14, 15, 16, 17, 4, 5, 6] (by decide) rfl
  refine zc_v (ws' := fun u => ((bX4 ah an am af ai aj al ag cy S) ++ ((bX3 an cy Sn) ++ ((bX1 ag cy u))))) (va_runV (As := [.ref (an 99)]) (rest := []) ⟨hx, hb, hml, hown, htB⟩ (c_X1_run l D cy ag an H.size Sn Sg h) (cwV 1 htB (zgV zm_166 zm_168 zm_169 zm_57 zm_167) rfl rfl rfl hd_X1_run ⟨Nat.le_of_ble_eq_true rfl, Nat.le_of_ble_eq_true rfl⟩) ⟨zM_blind, va_recv hK hP (ci := 1) (q0 := 7) rfl rfl, zM_pre hPc hK hN hDc⟩ rfl rfl hl.1 rfl (lv_room (Nat.le_of_ble_eq_true rfl)) dX4_judge_8 ⟨Nat.zero_le _, Nat.zero_le _⟩) hS hA hP hD [7, 8, 9, 10, 11, 12, 13, 14, 15, 16, 17, 4, 5, 6] [0, 1, 2, 3] [0, 1, 2, 3, 15, 16, 17, 4, 5, 6, 7, 8, 9, 10, 11, 12, 13, 14] (by decide) rfl (by decide) (by decide) rfl (fun u => rfl) (fun u => rfl) (fun u => rfl) (fun u H locs h hP hD hS => ?_)
  obtain ⟨Sg_8, eu⟩ : ∃ z, z = u := ⟨_, rfl⟩
  subst eu
  replace hP : va_P D zCl ((bX4 ah an am af ai aj al ag cy S) ++ ((bX3 an cy Sn) ++ ((bX1 ag cy Sg_8)))) H := hP
  replace hD : va_D A ((bX4 ah an am af ai aj al ag cy S) ++ ((bX3 an cy Sn) ++ ((bX1 ag cy Sg_8)))) := hD
  refine lv_aload_n hx hb dX4_judge_11 rfl (lv_at hl 0 rfl) ?_
  refine va_get (D := D) (ci := 4) (v := .int (S 10 0)) (C := RX4) (T := TX4) (N := 12) hx hb htB ziX4 hown hK hP 0 rfl rfl 10 (by decide) (htB _ zm_245) (fun _ h9 => h9) rfl dX4_judge_12 ?_
  refine lv_topi (fun y15 ey15 => ?_)
  replace h := h y15 ey15
  refine lv_istore_n (lv' := [(1, .int y15), (0, .ref (ah 99))]) hx hb dX4_judge_15 rfl hl (by decide) rfl (fun ls hl => ?_)
  refine lv_iload_n hx hb dX4_judge_16 rfl (lv_at hl 0 rfl) ?_
  refine lv_aload_n hx hb dX4_judge_17 rfl (lv_at hl 1 rfl) ?_
  refine va_get (D := D) (ci := 4) (v := .ref (an 99)) (C := RX4) (T := TX4) (N := 12) hx hb htB ziX4 hown hK hP 0 rfl rfl 0 (by decide) (htB _ zm_155) (fun _ h9 => h9) rfl dX4_judge_18 ?_
  refine va_getN (D := D) (ci := 3) (v := .int (Sn 2 0)) (C := RX3) (T := TX3) (N := 3) hx hb htB ziX3 hown hK hP 4 rfl rfl 2 (by decide) (va_Nw.use rfl (hN _ zm_164)) (fun _ h9 => h9) rfl dX4_judge_21 ?_
  refine va_mmin hx hb (hml.trans hl.1.symm) hown (htB _ zm_247) (htB _ zm_248) (htB _ zm_37) (htB _ zm_249) (Nat.le_of_ble_eq_true rfl) (Nat.le_of_ble_eq_true rfl) (Nat.zero_le _) (Nat.zero_le _) dX4_judge_24 ?_
  refine lv_topi (fun y27 ey27 => ?_)
  replace h := h y27 ey27
  refine lv_istore_n (lv' := [(2, .int y27), (1, .int y15), (0, .ref (ah 99))]) hx hb dX4_judge_27 rfl hl (by decide) rfl (fun ls hl => ?_)
  refine lv_aload_n hx hb dX4_judge_28 rfl (lv_at hl 2 rfl) ?_
  refine lv_iconst (v := (0 : Int32)) hx hb dX4_judge_29 (by decide) ?_
  refine va_put (D := D) (ci := 4) (v := .int (0 : Int32)) (ty := .int) (C := RX4) (T := TX4) (N := 12) hx hb htB ziX4 tyX4 tyX4_ok nmX4 hown hK hP hD hS 0 rfl rfl 10 (by decide) (htB _ zm_245) (fun _ h9 => h9) rfl (tyX4_ok 10 (by decide)) rfl rfl (Nat.le_of_ble_eq_true rfl) dX4_judge_30 (fun H locs hP hD hS => ?_)
  obtain ⟨S_30, eS_30⟩ : ∃ z : zT, z = (va_up S 10 (fun _ => (0 : Int32))) := ⟨_, rfl⟩
  replace h := h S_30 eS_30
  replace hP : va_P D zCl ((bX4 ah an am af ai aj al ag cy S_30) ++ ((bX3 an cy Sn) ++ ((bX1 ag cy Sg_8)))) H := by rw [eS_30]; exact hP
  replace hD : va_D A ((bX4 ah an am af ai aj al ag cy S_30) ++ ((bX3 an cy Sn) ++ ((bX1 ag cy Sg_8)))) := by rw [eS_30]; exact hD
  refine lv_iconst (v := (0 : Int32)) hx hb dX4_judge_33 (by decide) ?_
  refine lv_istore_n (lv' := [(3, .int (0 : Int32)), (2, .int y27), (1, .int y15), (0, .ref (ah 99))]) hx hb dX4_judge_34 rfl hl (by decide) rfl (fun ls hl => ?_)
  obtain ⟨nn, h⟩ := h
  exact L35 nn y15 y27 (0 : Int32) S_30 Sg_8 h H locs hP hD hS ls (lv_sub hl [3, 2, 1, 0] rfl)
set_option maxHeartbeats 4000000 in
set_option maxRecDepth 100000 in
theorem c_X4_image (l : Launch) (D : va_G) (cy : ClassId) (ah : Nat → Nat) (an : Nat → Nat) (am : Nat → Nat) (af : Nat → Nat) (ai : Nat → Nat) (aj : Nat → Nat) (al : Nat → Nat) (ag : Nat → Nat) (sz : Nat) (Sn : zT) (Sf : zT) (S : zT) (Si : zT) (Sj : zT) {Q : Int32 → zT → zT → zT → Prop} (h : wp_X4_image Sn Sf S Si Sj Q) : Met l yX4_image w_X4_image rm_X4_image (va_Pc [.ref (ah 99)] (zM D cy ((bX4 ah an am af ai aj al ag cy S) ++ ((bX3 an cy Sn) ++ ((bX0 af cy Sf) ++ ((bX3 ai cy Si) ++ ((bX0 aj cy Sj)))))) sz)) (va_Qi (S := zT × zT × zT) (fun (r : Int32) (u : zT × zT × zT) => Q r (u.1) (u.2.1) (u.2.2)) (fun u t => va_P D zCl ((fun (u : zT × zT × zT) => ((bX4 ah an am af ai aj al ag cy (u.1)) ++ ((bX3 an cy Sn) ++ ((bX0 af cy Sf) ++ ((bX3 ai cy (u.2.1)) ++ ((bX0 aj cy (u.2.2)))))))) u) t.heap) (va_A ((bX4 ah an am af ai aj al ag cy S) ++ ((bX3 an cy Sn) ++ ((bX0 af cy Sf) ++ ((bX3 ai cy Si) ++ ((bX0 aj cy Sj)))))) sz)) 0 0 (va_A ((bX4 ah an am af ai aj al ag cy S) ++ ((bX3 an cy Sn) ++ ((bX0 af cy Sf) ++ ((bX3 ai cy Si) ++ ((bX0 aj cy Sj)))))) sz) := by
  refine zOf_i (by decide) (Nat.le_of_ble_eq_true rfl) ?_
  intro p e s m below meth c ls A H locs hx hb hr hml hown htB hlocks hK hN hP hD hS hA hl
  replace hl : lv_has ls 1 [(0, .ref (ah 99))] := hl
  refine lv_aload_n hx hb dX4_image_0 rfl (lv_at hl 0 rfl) ?_
  refine va_get (D := D) (ci := 4) (v := .ref (ai 99)) (C := RX4) (T := TX4) (N := 12) hx hb htB ziX4 hown hK hP 0 rfl rfl 3 (by decide) (htB _ zm_250) (fun _ h9 => h9) rfl dX4_image_1 ?_
  refine lv_aload_n hx hb dX4_image_4 rfl (lv_at hl 0 rfl) ?_
  refine va_get (D := D) (ci := 4) (v := .ref (an 99)) (C := RX4) (T := TX4) (N := 12) hx hb htB ziX4 hown hK hP 0 rfl rfl 0 (by decide) (htB _ zm_155) (fun _ h9 => h9) rfl dX4_image_5 ?_
  have hPc : va_P D zCl ((bX3 ai cy Si) ++ ((bX3 an cy Sn))) H := hP.sub [12, 13, 14, 4, 5, 6] rfl
  have hDc : va_D A ((bX3 ai cy Si) ++ ((bX3 an cy Sn))) := hD.sub [12, 13, 14, 4, 5, 6] (by decide) rfl
  refine zc_v (ws' := fun u => ((bX4 ah an am af ai aj al ag cy S) ++ ((bX3 an cy Sn) ++ ((bX0 af cy Sf) ++ ((bX3 ai cy u) ++ ((bX0 aj cy Sj))))))) (va_runV (As := [.ref (an 99)]) (rest := []) ⟨hx, hb, hml, hown, htB⟩ (c_X3_become l D cy ai an H.size Sn Si h) (cwV 1 htB (zgV zm_205 zm_207 zm_208 zm_28 zm_206) rfl rfl rfl hd_X3_become ⟨Nat.le_of_ble_eq_true rfl, Nat.le_of_ble_eq_true rfl⟩) ⟨zM_blind, va_recv hK hP (ci := 3) (q0 := 12) rfl rfl, zM_pre hPc hK hN hDc⟩ rfl rfl hl.1 rfl (lv_room (Nat.le_of_ble_eq_true rfl)) dX4_image_8 ⟨Nat.zero_le _, Nat.zero_le _⟩) hS hA hP hD [12, 13, 14, 4, 5, 6] [0, 1, 2, 3, 7, 8, 9, 10, 11, 15, 16, 17, 18, 19] [0, 1, 2, 3, 17, 18, 19, 4, 5, 6, 7, 8, 14, 15, 16, 9, 10, 11, 12, 13] (by decide) rfl (by decide) (by decide) rfl (fun u => rfl) (fun u => rfl) (fun u => rfl) (fun u H locs h hP hD hS => ?_)
  obtain ⟨Si_8, eu⟩ : ∃ z, z = u := ⟨_, rfl⟩
  subst eu
  replace hP : va_P D zCl ((bX4 ah an am af ai aj al ag cy S) ++ ((bX3 an cy Sn) ++ ((bX0 af cy Sf) ++ ((bX3 ai cy Si_8) ++ ((bX0 aj cy Sj)))))) H := hP
  replace hD : va_D A ((bX4 ah an am af ai aj al ag cy S) ++ ((bX3 an cy Sn) ++ ((bX0 af cy Sf) ++ ((bX3 ai cy Si_8) ++ ((bX0 aj cy Sj)))))) := hD
  refine lv_aload_n hx hb dX4_image_11 rfl (lv_at hl 0 rfl) ?_
  refine va_get (D := D) (ci := 4) (v := .ref (aj 99)) (C := RX4) (T := TX4) (N := 12) hx hb htB ziX4 hown hK hP 0 rfl rfl 4 (by decide) (htB _ zm_251) (fun _ h9 => h9) rfl dX4_image_12 ?_
  refine lv_aload_n hx hb dX4_image_15 rfl (lv_at hl 0 rfl) ?_
  refine va_get (D := D) (ci := 4) (v := .ref (af 99)) (C := RX4) (T := TX4) (N := 12) hx hb htB ziX4 hown hK hP 0 rfl rfl 2 (by decide) (htB _ zm_222) (fun _ h9 => h9) rfl dX4_image_16 ?_
  have hPc : va_P D zCl ((bX0 aj cy Sj) ++ ((bX0 af cy Sf))) H := hP.sub [15, 16, 17, 18, 19, 7, 8, 9, 10, 11] rfl
  have hDc : va_D A ((bX0 aj cy Sj) ++ ((bX0 af cy Sf))) := hD.sub [15, 16, 17, 18, 19, 7, 8, 9, 10, 11] (by decide) rfl
  refine zc_v (ws' := fun u => ((bX4 ah an am af ai aj al ag cy S) ++ ((bX3 an cy Sn) ++ ((bX0 af cy Sf) ++ ((bX3 ai cy Si_8) ++ ((bX0 aj cy u))))))) (va_runV (As := [.ref (af 99)]) (rest := []) ⟨hx, hb, hml, hown, htB⟩ (c_X0_become l D cy aj af H.size Sf Sj h) (cwV 1 htB (zgV zm_252 zm_254 zm_255 zm_230 zm_253) rfl rfl rfl hd_X0_become ⟨Nat.le_of_ble_eq_true rfl, Nat.le_of_ble_eq_true rfl⟩) ⟨zM_blind, va_recv hK hP (ci := 0) (q0 := 15) rfl rfl, zM_pre hPc hK hN hDc⟩ rfl rfl hl.1 rfl (lv_room (Nat.le_of_ble_eq_true rfl)) dX4_image_19 ⟨Nat.zero_le _, Nat.zero_le _⟩) hS hA hP hD [15, 16, 17, 18, 19, 7, 8, 9, 10, 11] [0, 1, 2, 3, 4, 5, 6, 12, 13, 14] [0, 1, 2, 3, 4, 5, 6, 15, 16, 17, 18, 19, 7, 8, 9, 10, 11, 12, 13, 14] (by decide) rfl (by decide) (by decide) rfl (fun u => rfl) (fun u => rfl) (fun u => rfl) (fun u H locs h hP hD hS => ?_)
  obtain ⟨Sj_19, eu⟩ : ∃ z, z = u := ⟨_, rfl⟩
  subst eu
  replace hP : va_P D zCl ((bX4 ah an am af ai aj al ag cy S) ++ ((bX3 an cy Sn) ++ ((bX0 af cy Sf) ++ ((bX3 ai cy Si_8) ++ ((bX0 aj cy Sj_19)))))) H := hP
  replace hD : va_D A ((bX4 ah an am af ai aj al ag cy S) ++ ((bX3 an cy Sn) ++ ((bX0 af cy Sf) ++ ((bX3 ai cy Si_8) ++ ((bX0 aj cy Sj_19)))))) := hD
  refine lv_aload_n hx hb dX4_image_22 rfl (lv_at hl 0 rfl) ?_
  refine lv_iconst (v := (1 : Int32)) hx hb dX4_image_23 (by decide) ?_
  refine va_put (D := D) (ci := 4) (v := .int (1 : Int32)) (ty := .boolean) (C := RX4) (T := TX4) (N := 12) hx hb htB ziX4 tyX4 tyX4_ok nmX4 hown hK hP hD hS 0 rfl rfl 5 (by decide) (htB _ zm_256) (fun _ h9 => h9) rfl (tyX4_ok 5 (by decide)) rfl rfl (Nat.le_of_ble_eq_true rfl) dX4_image_24 (fun H locs hP hD hS => ?_)
  obtain ⟨S_24, eS_24⟩ : ∃ z : zT, z = (va_up S 5 (fun _ => (1 : Int32))) := ⟨_, rfl⟩
  replace h := h S_24 eS_24
  replace hP : va_P D zCl ((bX4 ah an am af ai aj al ag cy S_24) ++ ((bX3 an cy Sn) ++ ((bX0 af cy Sf) ++ ((bX3 ai cy Si_8) ++ ((bX0 aj cy Sj_19)))))) H := by rw [eS_24]; exact hP
  replace hD : va_D A ((bX4 ah an am af ai aj al ag cy S_24) ++ ((bX3 an cy Sn) ++ ((bX0 af cy Sf) ++ ((bX3 ai cy Si_8) ++ ((bX0 aj cy Sj_19)))))) := by rw [eS_24]; exact hD
  refine lv_aload_n hx hb dX4_image_27 rfl (lv_at hl 0 rfl) ?_
  refine va_get (D := D) (ci := 4) (v := .ref (an 99)) (C := RX4) (T := TX4) (N := 12) hx hb htB ziX4 hown hK hP 0 rfl rfl 0 (by decide) (htB _ zm_155) (fun _ h9 => h9) rfl dX4_image_28 ?_
  refine va_getN (D := D) (ci := 3) (v := .int (Sn 2 0)) (C := RX3) (T := TX3) (N := 3) hx hb htB ziX3 hown hK hP 4 rfl rfl 2 (by decide) (va_Nw.use rfl (hN _ zm_164)) (fun _ h9 => h9) rfl dX4_image_31 ?_
  exact W.iret (v := (Sn 2 0)) hx hb hr (fun t ht hW => ⟨⟨_, (S_24, Si_8, Sj_19), rfl, h, zP_h ht hP⟩, hS.F ht⟩) hS.2.2 dX4_image_34
set_option maxHeartbeats 4000000 in
set_option maxRecDepth 100000 in
theorem c_X4_on (l : Launch) (D : va_G) (cy : ClassId) (ah : Nat → Nat) (an : Nat → Nat) (am : Nat → Nat) (af : Nat → Nat) (ai : Nat → Nat) (aj : Nat → Nat) (al : Nat → Nat) (ag : Nat → Nat) (sz : Nat) (Si : zT) (Sj : zT) (S : zT) (Sn : zT) (Sf : zT) {Q : Int32 → zT → zT → zT → Prop} (h : wp_X4_on Si Sj S Sn Sf Q) : Met l yX4_on w_X4_on rm_X4_on (va_Pc [.ref (ah 99)] (zM D cy ((bX4 ah an am af ai aj al ag cy S) ++ ((bX3 an cy Sn) ++ ((bX0 af cy Sf) ++ ((bX3 ai cy Si) ++ ((bX0 aj cy Sj)))))) sz)) (va_Qi (S := zT × zT × zT) (fun (r : Int32) (u : zT × zT × zT) => Q r (u.1) (u.2.1) (u.2.2)) (fun u t => va_P D zCl ((fun (u : zT × zT × zT) => ((bX4 ah an am af ai aj al ag cy (u.1)) ++ ((bX3 an cy (u.2.1)) ++ ((bX0 af cy (u.2.2)) ++ ((bX3 ai cy Si) ++ ((bX0 aj cy Sj))))))) u) t.heap) (va_A ((bX4 ah an am af ai aj al ag cy S) ++ ((bX3 an cy Sn) ++ ((bX0 af cy Sf) ++ ((bX3 ai cy Si) ++ ((bX0 aj cy Sj)))))) sz)) 0 0 (va_A ((bX4 ah an am af ai aj al ag cy S) ++ ((bX3 an cy Sn) ++ ((bX0 af cy Sf) ++ ((bX3 ai cy Si) ++ ((bX0 aj cy Sj)))))) sz) := by
  refine zOf_i (by decide) (Nat.le_of_ble_eq_true rfl) ?_
  intro p e s m below meth c ls A H locs hx hb hr hml hown htB hlocks hK hN hP hD hS hA hl
  replace hl : lv_has ls 1 [(0, .ref (ah 99))] := hl
  refine lv_aload_n hx hb dX4_on_0 rfl (lv_at hl 0 rfl) ?_
  refine va_get (D := D) (ci := 4) (v := .int (S 5 0)) (C := RX4) (T := TX4) (N := 12) hx hb htB ziX4 hown hK hP 0 rfl rfl 5 (by decide) (htB _ zm_256) (fun _ h9 => h9) rfl dX4_on_1 ?_
  refine lv_if_ne (tgt := 14) hx hb dX4_on_4 (by decide) (fun c4 => ?_) (fun c4 => ?_)
  · replace h := And.right h c4
    refine lv_aload_n hx hb dX4_on_14 rfl (lv_at hl 0 rfl) ?_
    refine va_get (D := D) (ci := 4) (v := .ref (an 99)) (C := RX4) (T := TX4) (N := 12) hx hb htB ziX4 hown hK hP 0 rfl rfl 0 (by decide) (htB _ zm_155) (fun _ h9 => h9) rfl dX4_on_15 ?_
    refine lv_aload_n hx hb dX4_on_18 rfl (lv_at hl 0 rfl) ?_
    refine va_get (D := D) (ci := 4) (v := .ref (ai 99)) (C := RX4) (T := TX4) (N := 12) hx hb htB ziX4 hown hK hP 0 rfl rfl 3 (by decide) (htB _ zm_250) (fun _ h9 => h9) rfl dX4_on_19 ?_
    have hPc : va_P D zCl ((bX3 an cy Sn) ++ ((bX3 ai cy Si))) H := hP.sub [4, 5, 6, 12, 13, 14] rfl
    have hDc : va_D A ((bX3 an cy Sn) ++ ((bX3 ai cy Si))) := hD.sub [4, 5, 6, 12, 13, 14] (by decide) rfl
    refine zc_v (ws' := fun u => ((bX4 ah an am af ai aj al ag cy S) ++ ((bX3 an cy u) ++ ((bX0 af cy Sf) ++ ((bX3 ai cy Si) ++ ((bX0 aj cy Sj))))))) (va_runV (As := [.ref (ai 99)]) (rest := []) ⟨hx, hb, hml, hown, htB⟩ (c_X3_become l D cy an ai H.size Si Sn h) (cwV 1 htB (zgV zm_205 zm_207 zm_208 zm_28 zm_206) rfl rfl rfl hd_X3_become ⟨Nat.le_of_ble_eq_true rfl, Nat.le_of_ble_eq_true rfl⟩) ⟨zM_blind, va_recv hK hP (ci := 3) (q0 := 4) rfl rfl, zM_pre hPc hK hN hDc⟩ rfl rfl hl.1 rfl (lv_room (Nat.le_of_ble_eq_true rfl)) dX4_on_22 ⟨Nat.zero_le _, Nat.zero_le _⟩) hS hA hP hD [4, 5, 6, 12, 13, 14] [0, 1, 2, 3, 7, 8, 9, 10, 11, 15, 16, 17, 18, 19] [0, 1, 2, 3, 14, 15, 16, 4, 5, 6, 7, 8, 17, 18, 19, 9, 10, 11, 12, 13] (by decide) rfl (by decide) (by decide) rfl (fun u => rfl) (fun u => rfl) (fun u => rfl) (fun u H locs h hP hD hS => ?_)
    obtain ⟨Sn_22, eu⟩ : ∃ z, z = u := ⟨_, rfl⟩
    subst eu
    replace hP : va_P D zCl ((bX4 ah an am af ai aj al ag cy S) ++ ((bX3 an cy Sn_22) ++ ((bX0 af cy Sf) ++ ((bX3 ai cy Si) ++ ((bX0 aj cy Sj)))))) H := hP
    replace hD : va_D A ((bX4 ah an am af ai aj al ag cy S) ++ ((bX3 an cy Sn_22) ++ ((bX0 af cy Sf) ++ ((bX3 ai cy Si) ++ ((bX0 aj cy Sj)))))) := hD
    refine lv_aload_n hx hb dX4_on_25 rfl (lv_at hl 0 rfl) ?_
    refine va_get (D := D) (ci := 4) (v := .ref (af 99)) (C := RX4) (T := TX4) (N := 12) hx hb htB ziX4 hown hK hP 0 rfl rfl 2 (by decide) (htB _ zm_222) (fun _ h9 => h9) rfl dX4_on_26 ?_
    refine lv_aload_n hx hb dX4_on_29 rfl (lv_at hl 0 rfl) ?_
    refine va_get (D := D) (ci := 4) (v := .ref (aj 99)) (C := RX4) (T := TX4) (N := 12) hx hb htB ziX4 hown hK hP 0 rfl rfl 4 (by decide) (htB _ zm_251) (fun _ h9 => h9) rfl dX4_on_30 ?_
    have hPc : va_P D zCl ((bX0 af cy Sf) ++ ((bX0 aj cy Sj))) H := hP.sub [7, 8, 9, 10, 11, 15, 16, 17, 18, 19] rfl
    have hDc : va_D A ((bX0 af cy Sf) ++ ((bX0 aj cy Sj))) := hD.sub [7, 8, 9, 10, 11, 15, 16, 17, 18, 19] (by decide) rfl
    refine zc_v (ws' := fun u => ((bX4 ah an am af ai aj al ag cy S) ++ ((bX3 an cy Sn_22) ++ ((bX0 af cy u) ++ ((bX3 ai cy Si) ++ ((bX0 aj cy Sj))))))) (va_runV (As := [.ref (aj 99)]) (rest := []) ⟨hx, hb, hml, hown, htB⟩ (c_X0_become l D cy af aj H.size Sj Sf h) (cwV 1 htB (zgV zm_252 zm_254 zm_255 zm_230 zm_253) rfl rfl rfl hd_X0_become ⟨Nat.le_of_ble_eq_true rfl, Nat.le_of_ble_eq_true rfl⟩) ⟨zM_blind, va_recv hK hP (ci := 0) (q0 := 7) rfl rfl, zM_pre hPc hK hN hDc⟩ rfl rfl hl.1 rfl (lv_room (Nat.le_of_ble_eq_true rfl)) dX4_on_33 ⟨Nat.zero_le _, Nat.zero_le _⟩) hS hA hP hD [7, 8, 9, 10, 11, 15, 16, 17, 18, 19] [0, 1, 2, 3, 4, 5, 6, 12, 13, 14] [0, 1, 2, 3, 4, 5, 6, 10, 11, 12, 13, 14, 7, 8, 9, 15, 16, 17, 18, 19] (by decide) rfl (by decide) (by decide) rfl (fun u => rfl) (fun u => rfl) (fun u => rfl) (fun u H locs h hP hD hS => ?_)
    obtain ⟨Sf_33, eu⟩ : ∃ z, z = u := ⟨_, rfl⟩
    subst eu
    replace hP : va_P D zCl ((bX4 ah an am af ai aj al ag cy S) ++ ((bX3 an cy Sn_22) ++ ((bX0 af cy Sf_33) ++ ((bX3 ai cy Si) ++ ((bX0 aj cy Sj)))))) H := hP
    replace hD : va_D A ((bX4 ah an am af ai aj al ag cy S) ++ ((bX3 an cy Sn_22) ++ ((bX0 af cy Sf_33) ++ ((bX3 ai cy Si) ++ ((bX0 aj cy Sj)))))) := hD
    refine lv_aload_n hx hb dX4_on_36 rfl (lv_at hl 0 rfl) ?_
    refine va_get (D := D) (ci := 4) (v := .ref (an 99)) (C := RX4) (T := TX4) (N := 12) hx hb htB ziX4 hown hK hP 0 rfl rfl 0 (by decide) (htB _ zm_155) (fun _ h9 => h9) rfl dX4_on_37 ?_
    refine va_getN (D := D) (ci := 3) (v := .int (Sn_22 2 0)) (C := RX3) (T := TX3) (N := 3) hx hb htB ziX3 hown hK hP 4 rfl rfl 2 (by decide) (va_Nw.use rfl (hN _ zm_164)) (fun _ h9 => h9) rfl dX4_on_40 ?_
    exact W.iret (v := (Sn_22 2 0)) hx hb hr (fun t ht hW => ⟨⟨_, (S, Sn_22, Sf_33), rfl, h, zP_h ht hP⟩, hS.F ht⟩) hS.2.2 dX4_on_43
  · replace h := And.left h c4
    refine lv_aload_n hx hb dX4_on_7 rfl (lv_at hl 0 rfl) ?_
    refine lv_bipush (v := (-3 : Int32)) hx hb dX4_on_8 (by decide) ?_
    have hPc : va_P D zCl (bX4 ah an am af ai aj al ag cy S) H := hP.sub [0, 1, 2, 3] rfl
    have hDc : va_D A (bX4 ah an am af ai aj al ag cy S) := hD.sub [0, 1, 2, 3] (by decide) rfl
    refine zc_i (ws' := fun u => ((bX4 ah an am af ai aj al ag cy u) ++ ((bX3 an cy Sn) ++ ((bX0 af cy Sf) ++ ((bX3 ai cy Si) ++ ((bX0 aj cy Sj))))))) (va_runV (As := [.int (-3 : Int32)]) (rest := []) ⟨hx, hb, hml, hown, htB⟩ (c_X4_refuse l D cy ah an am af ai aj al ag H.size (-3 : Int32) S h) (cwV 1 htB (zgV zm_145 zm_147 zm_148 zm_4 zm_146) rfl rfl rfl hd_X4_refuse ⟨Nat.le_of_ble_eq_true rfl, Nat.le_of_ble_eq_true rfl⟩) ⟨zM_blind, va_recv hK hP (ci := 4) (q0 := 0) rfl rfl, zM_pre hPc hK hN hDc⟩ rfl rfl hl.1 rfl (lv_room (Nat.le_of_ble_eq_true rfl)) dX4_on_10 ⟨Nat.zero_le _, Nat.zero_le _⟩) hS hA hP hD [0, 1, 2, 3] [4, 5, 6, 7, 8, 9, 10, 11, 12, 13, 14, 15, 16, 17, 18, 19] [16, 17, 18, 19, 0, 1, 2, 3, 4, 5, 6, 7, 8, 9, 10, 11, 12, 13, 14, 15] (by decide) rfl (by decide) (by decide) rfl (fun u => rfl) (fun u => rfl) (fun u => rfl) (fun r10 u H locs h hP hD hS => ?_)
    obtain ⟨S_10, eu⟩ : ∃ z, z = u := ⟨_, rfl⟩
    subst eu
    replace hP : va_P D zCl ((bX4 ah an am af ai aj al ag cy S_10) ++ ((bX3 an cy Sn) ++ ((bX0 af cy Sf) ++ ((bX3 ai cy Si) ++ ((bX0 aj cy Sj)))))) H := hP
    replace hD : va_D A ((bX4 ah an am af ai aj al ag cy S_10) ++ ((bX3 an cy Sn) ++ ((bX0 af cy Sf) ++ ((bX3 ai cy Si) ++ ((bX0 aj cy Sj)))))) := hD
    exact W.iret (v := r10) hx hb hr (fun t ht hW => ⟨⟨_, (S_10, Sn, Sf), rfl, h, zP_h ht hP⟩, hS.F ht⟩) hS.2.2 dX4_on_13
set_option maxHeartbeats 4000000 in
set_option maxRecDepth 100000 in
theorem c_X4_count (l : Launch) (D : va_G) (cy : ClassId) (ah : Nat → Nat) (an : Nat → Nat) (am : Nat → Nat) (af : Nat → Nat) (ai : Nat → Nat) (aj : Nat → Nat) (al : Nat → Nat) (ag : Nat → Nat) (S : zT) (Sn : zT) (Sf : zT) (Sl : zT) (i1 : Int32) {Q : Int32 → Prop} (h : wp_X4_count S Sn Sf Sl i1 Q) : Met l yX4_count w_X4_count rm_X4_count (va_Pc [.ref (ah 99), .int i1] (zR D cy ((bX4 ah an am af ai aj al ag cy S) ++ ((bX3 an cy Sn) ++ ((bX0 af cy Sf) ++ ((bX2 al cy Sl))))))) (vp_Si Q) 0 0 (fun _ => False) := by
  refine zOf_r (by decide) (Nat.le_of_ble_eq_true rfl) ?_
  intro p e s m below meth c ls hx hb hr hml hown htB hlocks hK hN hP hl
  replace hl : lv_has ls 2 [(0, .ref (ah 99)), (1, .int i1)] := hl
  have L24 : wpb_X4_count_24 S Sn Sf Sl i1 Q → ∀ ls : Array Slot, lv_has ls 2 [(0, .ref (ah 99)), (1, .int i1)] → W p l e rm_X4_count s m ([.ref (ah 99), .int i1] : List Value).toArray below meth c s.heap [] 0 0 (MQ below (vp_Si Q) ([.ref (ah 99), .int i1] : List Value).toArray s 0 0 (fun _ => False)) (F0 m 24 ls []) := by
    intro  h ls hl
    refine lv_iload_n hx hb dX4_count_24 rfl (lv_at hl 1 rfl) ?_
    by_cases c25_0 : i1 = (0 : Int32)
    · replace h := And.left h c25_0
      refine lv_tableIn (off := 51) (tgt := 76) hx hb dX4_count_25 (by rw [c25_0]; decide) (by rw [c25_0]; decide) (by rw [c25_0]; rfl) (by decide) ?_
      refine lv_aload_n hx hb dX4_count_76 rfl (lv_at hl 0 rfl) ?_
      refine va_get (D := D) (ci := 4) (v := .ref (an 99)) (C := RX4) (T := TX4) (N := 12) hx hb htB ziX4 hown hK hP 0 rfl rfl 0 (by decide) (htB _ zm_155) (fun _ h9 => h9) rfl dX4_count_77 ?_
      refine va_getN (D := D) (ci := 3) (v := .int (Sn 2 0)) (C := RX3) (T := TX3) (N := 3) hx hb htB ziX3 hown hK hP 4 rfl rfl 2 (by decide) (va_Nw.use rfl (hN _ zm_164)) (fun _ h9 => h9) rfl dX4_count_80 ?_
      exact W.iret (v := (Sn 2 0)) hx hb hr (fun t ht hW => ⟨_, rfl, h, ht⟩) (fun q hq => by cases hq) dX4_count_83
    · replace h := And.right h c25_0
      by_cases c25_1 : i1 = (1 : Int32)
      · replace h := And.left h c25_1
        refine lv_tableIn (off := 59) (tgt := 84) hx hb dX4_count_25 (by rw [c25_1]; decide) (by rw [c25_1]; decide) (by rw [c25_1]; rfl) (by decide) ?_
        refine lv_aload_n hx hb dX4_count_84 rfl (lv_at hl 0 rfl) ?_
        refine va_get (D := D) (ci := 4) (v := .ref (an 99)) (C := RX4) (T := TX4) (N := 12) hx hb htB ziX4 hown hK hP 0 rfl rfl 0 (by decide) (htB _ zm_155) (fun _ h9 => h9) rfl dX4_count_85 ?_
        refine lv_iconst (v := (0 : Int32)) hx hb dX4_count_88 (by decide) ?_
        have hPc : va_P D zCl (bX3 an cy Sn) s.heap := hP.sub [4, 5, 6] rfl
        refine zc_r (va_runV (As := [.int (0 : Int32)]) (rest := []) ⟨hx, hb, hml, hown, htB⟩ (c_X3_door l D cy an Sn (0 : Int32) h) (cwV 1 htB (zgV zm_199 zm_29 zm_30 zm_28 zm_27) rfl rfl rfl hd_X3_door ⟨Nat.le_of_ble_eq_true rfl, Nat.le_of_ble_eq_true rfl⟩) ⟨zR_blind, va_recv hK hP (ci := 3) (q0 := 4) rfl rfl, zR_pre hPc hK hN⟩ rfl rfl hl.1 rfl (lv_room (Nat.le_of_ble_eq_true rfl)) dX4_count_89 ⟨Nat.zero_le _, Nat.zero_le _⟩) (fun r89 h => ?_)
        exact W.iret (v := r89) hx hb hr (fun t ht hW => ⟨_, rfl, h, ht⟩) (fun q hq => by cases hq) dX4_count_92
      · replace h := And.right h c25_1
        by_cases c25_2 : i1 = (2 : Int32)
        · replace h := And.left h c25_2
          refine lv_tableIn (off := 68) (tgt := 93) hx hb dX4_count_25 (by rw [c25_2]; decide) (by rw [c25_2]; decide) (by rw [c25_2]; rfl) (by decide) ?_
          refine lv_aload_n hx hb dX4_count_93 rfl (lv_at hl 0 rfl) ?_
          refine va_get (D := D) (ci := 4) (v := .ref (an 99)) (C := RX4) (T := TX4) (N := 12) hx hb htB ziX4 hown hK hP 0 rfl rfl 0 (by decide) (htB _ zm_155) (fun _ h9 => h9) rfl dX4_count_94 ?_
          refine lv_iconst (v := (1 : Int32)) hx hb dX4_count_97 (by decide) ?_
          have hPc : va_P D zCl (bX3 an cy Sn) s.heap := hP.sub [4, 5, 6] rfl
          refine zc_r (va_runV (As := [.int (1 : Int32)]) (rest := []) ⟨hx, hb, hml, hown, htB⟩ (c_X3_door l D cy an Sn (1 : Int32) h) (cwV 1 htB (zgV zm_199 zm_29 zm_30 zm_28 zm_27) rfl rfl rfl hd_X3_door ⟨Nat.le_of_ble_eq_true rfl, Nat.le_of_ble_eq_true rfl⟩) ⟨zR_blind, va_recv hK hP (ci := 3) (q0 := 4) rfl rfl, zR_pre hPc hK hN⟩ rfl rfl hl.1 rfl (lv_room (Nat.le_of_ble_eq_true rfl)) dX4_count_98 ⟨Nat.zero_le _, Nat.zero_le _⟩) (fun r98 h => ?_)
          exact W.iret (v := r98) hx hb hr (fun t ht hW => ⟨_, rfl, h, ht⟩) (fun q hq => by cases hq) dX4_count_101
        · replace h := And.right h c25_2
          by_cases c25_3 : i1 = (3 : Int32)
          · replace h := And.left h c25_3
            refine lv_tableIn (off := 77) (tgt := 102) hx hb dX4_count_25 (by rw [c25_3]; decide) (by rw [c25_3]; decide) (by rw [c25_3]; rfl) (by decide) ?_
            refine lv_aload_n hx hb dX4_count_102 rfl (lv_at hl 0 rfl) ?_
            refine va_get (D := D) (ci := 4) (v := .ref (an 99)) (C := RX4) (T := TX4) (N := 12) hx hb htB ziX4 hown hK hP 0 rfl rfl 0 (by decide) (htB _ zm_155) (fun _ h9 => h9) rfl dX4_count_103 ?_
            refine lv_iconst (v := (2 : Int32)) hx hb dX4_count_106 (by decide) ?_
            have hPc : va_P D zCl (bX3 an cy Sn) s.heap := hP.sub [4, 5, 6] rfl
            refine zc_r (va_runV (As := [.int (2 : Int32)]) (rest := []) ⟨hx, hb, hml, hown, htB⟩ (c_X3_door l D cy an Sn (2 : Int32) h) (cwV 1 htB (zgV zm_199 zm_29 zm_30 zm_28 zm_27) rfl rfl rfl hd_X3_door ⟨Nat.le_of_ble_eq_true rfl, Nat.le_of_ble_eq_true rfl⟩) ⟨zR_blind, va_recv hK hP (ci := 3) (q0 := 4) rfl rfl, zR_pre hPc hK hN⟩ rfl rfl hl.1 rfl (lv_room (Nat.le_of_ble_eq_true rfl)) dX4_count_107 ⟨Nat.zero_le _, Nat.zero_le _⟩) (fun r107 h => ?_)
            exact W.iret (v := r107) hx hb hr (fun t ht hW => ⟨_, rfl, h, ht⟩) (fun q hq => by cases hq) dX4_count_110
          · replace h := And.right h c25_3
            by_cases c25_4 : i1 = (4 : Int32)
            · replace h := And.left h c25_4
              refine lv_tableIn (off := 86) (tgt := 111) hx hb dX4_count_25 (by rw [c25_4]; decide) (by rw [c25_4]; decide) (by rw [c25_4]; rfl) (by decide) ?_
              refine lv_aload_n hx hb dX4_count_111 rfl (lv_at hl 0 rfl) ?_
              refine va_get (D := D) (ci := 4) (v := .ref (an 99)) (C := RX4) (T := TX4) (N := 12) hx hb htB ziX4 hown hK hP 0 rfl rfl 0 (by decide) (htB _ zm_155) (fun _ h9 => h9) rfl dX4_count_112 ?_
              refine lv_iconst (v := (4 : Int32)) hx hb dX4_count_115 (by decide) ?_
              have hPc : va_P D zCl (bX3 an cy Sn) s.heap := hP.sub [4, 5, 6] rfl
              refine zc_r (va_runV (As := [.int (4 : Int32)]) (rest := []) ⟨hx, hb, hml, hown, htB⟩ (c_X3_door l D cy an Sn (4 : Int32) h) (cwV 1 htB (zgV zm_199 zm_29 zm_30 zm_28 zm_27) rfl rfl rfl hd_X3_door ⟨Nat.le_of_ble_eq_true rfl, Nat.le_of_ble_eq_true rfl⟩) ⟨zR_blind, va_recv hK hP (ci := 3) (q0 := 4) rfl rfl, zR_pre hPc hK hN⟩ rfl rfl hl.1 rfl (lv_room (Nat.le_of_ble_eq_true rfl)) dX4_count_116 ⟨Nat.zero_le _, Nat.zero_le _⟩) (fun r116 h => ?_)
              exact W.iret (v := r116) hx hb hr (fun t ht hW => ⟨_, rfl, h, ht⟩) (fun q hq => by cases hq) dX4_count_119
            · replace h := And.right h c25_4
              by_cases c25_5 : i1 = (5 : Int32)
              · replace h := And.left h c25_5
                refine lv_tableIn (off := 95) (tgt := 120) hx hb dX4_count_25 (by rw [c25_5]; decide) (by rw [c25_5]; decide) (by rw [c25_5]; rfl) (by decide) ?_
                refine lv_aload_n hx hb dX4_count_120 rfl (lv_at hl 0 rfl) ?_
                refine va_get (D := D) (ci := 4) (v := .ref (an 99)) (C := RX4) (T := TX4) (N := 12) hx hb htB ziX4 hown hK hP 0 rfl rfl 0 (by decide) (htB _ zm_155) (fun _ h9 => h9) rfl dX4_count_121 ?_
                refine lv_iconst (v := (3 : Int32)) hx hb dX4_count_124 (by decide) ?_
                have hPc : va_P D zCl (bX3 an cy Sn) s.heap := hP.sub [4, 5, 6] rfl
                refine zc_r (va_runV (As := [.int (3 : Int32)]) (rest := []) ⟨hx, hb, hml, hown, htB⟩ (c_X3_door l D cy an Sn (3 : Int32) h) (cwV 1 htB (zgV zm_199 zm_29 zm_30 zm_28 zm_27) rfl rfl rfl hd_X3_door ⟨Nat.le_of_ble_eq_true rfl, Nat.le_of_ble_eq_true rfl⟩) ⟨zR_blind, va_recv hK hP (ci := 3) (q0 := 4) rfl rfl, zR_pre hPc hK hN⟩ rfl rfl hl.1 rfl (lv_room (Nat.le_of_ble_eq_true rfl)) dX4_count_125 ⟨Nat.zero_le _, Nat.zero_le _⟩) (fun r125 h => ?_)
                exact W.iret (v := r125) hx hb hr (fun t ht hW => ⟨_, rfl, h, ht⟩) (fun q hq => by cases hq) dX4_count_128
              · replace h := And.right h c25_5
                by_cases c25_6 : i1 = (6 : Int32)
                · replace h := And.left h c25_6
                  refine lv_tableIn (off := 104) (tgt := 129) hx hb dX4_count_25 (by rw [c25_6]; decide) (by rw [c25_6]; decide) (by rw [c25_6]; rfl) (by decide) ?_
                  refine lv_aload_n hx hb dX4_count_129 rfl (lv_at hl 0 rfl) ?_
                  refine va_get (D := D) (ci := 4) (v := .ref (af 99)) (C := RX4) (T := TX4) (N := 12) hx hb htB ziX4 hown hK hP 0 rfl rfl 2 (by decide) (htB _ zm_222) (fun _ h9 => h9) rfl dX4_count_130 ?_
                  refine va_getN (D := D) (ci := 0) (v := .int (Sf 4 0)) (C := RX0) (T := TX0) (N := 5) hx hb htB ziX0 hown hK hP 7 rfl rfl 4 (by decide) (va_Nw.use rfl (hN _ zm_223)) (fun _ h9 => h9) rfl dX4_count_133 ?_
                  exact W.iret (v := (Sf 4 0)) hx hb hr (fun t ht hW => ⟨_, rfl, h, ht⟩) (fun q hq => by cases hq) dX4_count_136
                · replace h := And.right h c25_6
                  by_cases c25_7 : i1 = (7 : Int32)
                  · replace h := And.left h c25_7
                    refine lv_tableIn (off := 112) (tgt := 137) hx hb dX4_count_25 (by rw [c25_7]; decide) (by rw [c25_7]; decide) (by rw [c25_7]; rfl) (by decide) ?_
                    refine lv_aload_n hx hb dX4_count_137 rfl (lv_at hl 0 rfl) ?_
                    refine va_get (D := D) (ci := 4) (v := .int (S 10 0)) (C := RX4) (T := TX4) (N := 12) hx hb htB ziX4 hown hK hP 0 rfl rfl 10 (by decide) (htB _ zm_245) (fun _ h9 => h9) rfl dX4_count_138 ?_
                    exact W.iret (v := (S 10 0)) hx hb hr (fun t ht hW => ⟨_, rfl, h, ht⟩) (fun q hq => by cases hq) dX4_count_141
                  · replace h := And.right h c25_7
                    by_cases c25_8 : i1 = (8 : Int32)
                    · replace h := And.left h c25_8
                      refine lv_tableIn (off := 117) (tgt := 142) hx hb dX4_count_25 (by rw [c25_8]; decide) (by rw [c25_8]; decide) (by rw [c25_8]; rfl) (by decide) ?_
                      refine lv_aload_n hx hb dX4_count_142 rfl (lv_at hl 0 rfl) ?_
                      refine va_get (D := D) (ci := 4) (v := .ref (al 99)) (C := RX4) (T := TX4) (N := 12) hx hb htB ziX4 hown hK hP 0 rfl rfl 6 (by decide) (htB _ zm_149) (fun _ h9 => h9) rfl dX4_count_143 ?_
                      refine va_getN (D := D) (ci := 2) (v := .int (Sl 1 0)) (C := RX2) (T := TX2) (N := 5) hx hb htB ziX2 hown hK hP 12 rfl rfl 1 (by decide) (va_Nw.use rfl (hN _ zm_150)) (fun _ h9 => h9) rfl dX4_count_146 ?_
                      exact W.iret (v := (Sl 1 0)) hx hb hr (fun t ht hW => ⟨_, rfl, h, ht⟩) (fun q hq => by cases hq) dX4_count_149
                    · replace h := And.right h c25_8
                      have z0 := lv_neT c25_0 (a := 0) rfl
                      have z1 := lv_neT c25_1 (a := 1) rfl
                      have z2 := lv_neT c25_2 (a := 2) rfl
                      have z3 := lv_neT c25_3 (a := 3) rfl
                      have z4 := lv_neT c25_4 (a := 4) rfl
                      have z5 := lv_neT c25_5 (a := 5) rfl
                      have z6 := lv_neT c25_6 (a := 6) rfl
                      have z7 := lv_neT c25_7 (a := 7) rfl
                      have z8 := lv_neT c25_8 (a := 8) rfl
                      refine lv_tableOut (tgt := 150) hx hb dX4_count_25 (by omega) (by decide) ?_
                      refine lv_bipush (v := (-9 : Int32)) hx hb dX4_count_150 (by decide) ?_
                      exact W.iret (v := (-9 : Int32)) hx hb hr (fun t ht hW => ⟨_, rfl, h, ht⟩) (fun q hq => by cases hq) dX4_count_152
  refine lv_iload_n hx hb dX4_count_0 rfl (lv_at hl 1 rfl) ?_
  refine lv_bipush (v := (11 : Int32)) hx hb dX4_count_1 (by decide) ?_
  refine lv_icmp_lt (tgt := 24) hx hb dX4_count_3 (by decide) (fun c3 => ?_) (fun c3 => ?_)
  · replace h := And.left h c3
    exact L24  h ls (lv_sub hl [0, 1] rfl)
  · replace h := And.right h c3
    refine lv_iload_n hx hb dX4_count_6 rfl (lv_at hl 1 rfl) ?_
    refine lv_bipush (v := (16 : Int32)) hx hb dX4_count_7 (by decide) ?_
    refine lv_icmp_gt (tgt := 24) hx hb dX4_count_9 (by decide) (fun c9 => ?_) (fun c9 => ?_)
    · replace h := And.left h c9
      exact L24  h ls (lv_sub hl [0, 1] rfl)
    · replace h := And.right h c9
      refine lv_aload_n hx hb dX4_count_12 rfl (lv_at hl 0 rfl) ?_
      refine va_get (D := D) (ci := 4) (v := .ref (ah 11)) (C := RX4) (T := TX4) (N := 12) hx hb htB ziX4 hown hK hP 0 rfl rfl 11 (by decide) (htB _ zm_142) (fun _ h9 => h9) rfl dX4_count_13 ?_
      refine lv_iload_n hx hb dX4_count_16 rfl (lv_at hl 1 rfl) ?_
      refine lv_bipush (v := (11 : Int32)) hx hb dX4_count_17 (by decide) ?_
      refine lv_isub hx hb dX4_count_19 ?_
      have hPc : va_P D zCl [((ah 11), .inl (cy, 6, .inl (S 11)))] s.heap := hP.sub [3] rfl
      refine zc_r (va_runS (As := [.ref (ah 11), .int (i1 - (11 : Int32))]) (rest := []) ⟨hx, hb, hml, hown, htB⟩ (c_X4_at l D cy (ah 11) 6 (S 11) (i1 - (11 : Int32)) h) (cwS 2 htB (zgS zm_143 zm_14 zm_4 zm_13) rfl rfl rfl hd_X4_at ⟨Nat.le_of_ble_eq_true rfl, Nat.le_of_ble_eq_true rfl⟩) ⟨zR_blind, zR_pre hPc hK hN⟩ rfl rfl hl.1 rfl (lv_room (Nat.le_of_ble_eq_true rfl)) dX4_count_20 ⟨Nat.zero_le _, Nat.zero_le _⟩) (fun r20 h => ?_)
      exact W.iret (v := r20) hx hb hr (fun t ht hW => ⟨_, rfl, h, ht⟩) (fun q hq => by cases hq) dX4_count_23

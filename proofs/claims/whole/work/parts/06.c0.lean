set_option maxHeartbeats 4000000 in
set_option maxRecDepth 100000 in
theorem c_X4_put (l : Launch) (D : va_G) (cy : ClassId) (q0 : Nat) (sz : Nat) (n0 : Nat) (i1 : Int32) (i2 : Int32) (f0 : Nat → Int32) {Q : (Nat → Int32) → Prop} (h : wp_X4_put n0 i1 i2 f0 Q) : Met l yX4_put w_X4_put rm_X4_put (va_Pc [.ref q0, .int i1, .int i2] (zM D cy [(q0, .inl (cy, n0, .inl f0))] sz)) (va_Qv (S := (Nat → Int32)) (fun (u : (Nat → Int32)) => Q u) (fun u t => va_P D zCl ((fun (u : (Nat → Int32)) => [(q0, .inl (cy, n0, .inl u))]) u) t.heap) (va_A [(q0, .inl (cy, n0, .inl f0))] sz)) 0 0 (va_A [(q0, .inl (cy, n0, .inl f0))] sz) := by
  refine zOf_v (by decide) (Nat.le_of_ble_eq_true rfl) ?_
  intro p e s m below meth c ls A H locs hx hb hr hml hown htB hlocks hK hN hP hD hS hA hl
  replace hl : lv_has ls 3 [(0, .ref q0), (1, .int i1), (2, .int i2)] := hl
  refine lv_iload_n hx hb dX4_put_0 rfl (lv_at hl 1 rfl) ?_
  refine lv_if_lt (tgt := 14) hx hb dX4_put_1 (by decide) (fun c1 => ?_) (fun c1 => ?_)
  · replace h := And.left h c1
    exact W.vret hx hb hr (fun t ht hW => ⟨⟨f0, rfl, h, zP_h ht hP⟩, hS.F ht⟩) hS.2.2 dX4_put_14
  · replace h := And.right h c1
    refine lv_iload_n hx hb dX4_put_4 rfl (lv_at hl 1 rfl) ?_
    refine lv_aload_n hx hb dX4_put_5 rfl (lv_at hl 0 rfl) ?_
    refine va_alen (D := D) (v := (nI n0)) hx hb hK hP 0 0 rfl rfl rfl dX4_put_6 ?_
    refine lv_icmp_ge (tgt := 14) hx hb dX4_put_7 (by decide) (fun c7 => ?_) (fun c7 => ?_)
    · replace h := And.left h c7
      exact W.vret hx hb hr (fun t ht hW => ⟨⟨f0, rfl, h, zP_h ht hP⟩, hS.F ht⟩) hS.2.2 dX4_put_14
    · replace h := And.right h c7
      refine lv_aload_n hx hb dX4_put_10 rfl (lv_at hl 0 rfl) ?_
      refine lv_iload_n hx hb dX4_put_11 rfl (lv_at hl 1 rfl) ?_
      refine lv_iload_n hx hb dX4_put_12 rfl (lv_at hl 2 rfl) ?_
      refine va_iast (D := D) hx hb hK hP hD hS 0 0 rfl rfl (And.left h) dX4_put_13 (fun H locs hP hD hS => ?_)
      replace h := And.right h
      obtain ⟨f0_13, ef0_13⟩ : ∃ z : Nat → Int32, z = (upd f0 i1.toNatClampNeg i2) := ⟨_, rfl⟩
      replace h := h f0_13 ef0_13
      replace hP : va_P D zCl [(q0, .inl (cy, n0, .inl f0_13))] H := by rw [ef0_13]; exact hP
      replace hD : va_D A [(q0, .inl (cy, n0, .inl f0_13))] := by rw [ef0_13]; exact hD
      exact W.vret hx hb hr (fun t ht hW => ⟨⟨f0_13, rfl, h, zP_h ht hP⟩, hS.F ht⟩) hS.2.2 dX4_put_14
set_option maxHeartbeats 4000000 in
set_option maxRecDepth 100000 in
theorem c_X0_add (l : Launch) (D : va_G) (cy : ClassId) (ah : Nat → Nat) (sz : Nat) (i1 : Int32) (i2 : Int32) (i3 : Int32) (i4 : Int32) (S : zT) {Q : zT → Prop} (h : wp_X0_add i1 i2 i3 i4 S Q) : Met l yX0_add w_X0_add rm_X0_add (va_Pc [.ref (ah 99), .int i1, .int i2, .int i3, .int i4] (zM D cy (bX0 ah cy S) sz)) (va_Qv (S := zT) (fun (u : zT) => Q u) (fun u t => va_P D zCl ((fun (u : zT) => (bX0 ah cy u)) u) t.heap) (va_A (bX0 ah cy S) sz)) 0 0 (va_A (bX0 ah cy S) sz) := by
  refine zOf_v (by decide) (Nat.le_of_ble_eq_true rfl) ?_
  intro p e s m below meth c ls A H locs hx hb hr hml hown htB hlocks hK hN hP hD hS hA hl
  replace hl : lv_has ls 5 [(0, .ref (ah 99)), (1, .int i1), (2, .int i2), (3, .int i3), (4, .int i4)] := hl
  refine lv_aload_n hx hb dX0_add_0 rfl (lv_at hl 0 rfl) ?_
  refine va_get (D := D) (ci := 0) (v := .int (S 4 0)) (C := RX0) (T := TX0) (N := 5) hx hb htB ziX0 hown hK hP 0 rfl rfl 4 (by decide) (htB _ zm_0) (fun _ h9 => h9) rfl dX0_add_1 ?_
  refine lv_bipush (v := (10 : Int32)) hx hb dX0_add_4 (by decide) ?_
  refine lv_icmp_ge (tgt := 68) hx hb dX0_add_6 (by decide) (fun c6 => ?_) (fun c6 => ?_)
  · replace h := And.left h c6
    exact W.vret hx hb hr (fun t ht hW => ⟨⟨S, rfl, h, zP_h ht hP⟩, hS.F ht⟩) hS.2.2 dX0_add_68
  · replace h := And.right h c6
    refine lv_aload_n hx hb dX0_add_9 rfl (lv_at hl 0 rfl) ?_
    refine va_get (D := D) (ci := 0) (v := .ref (ah 0)) (C := RX0) (T := TX0) (N := 5) hx hb htB ziX0 hown hK hP 0 rfl rfl 0 (by decide) (htB _ zm_1) (fun _ h9 => h9) rfl dX0_add_10 ?_
    refine lv_aload_n hx hb dX0_add_13 rfl (lv_at hl 0 rfl) ?_
    refine va_get (D := D) (ci := 0) (v := .int (S 4 0)) (C := RX0) (T := TX0) (N := 5) hx hb htB ziX0 hown hK hP 0 rfl rfl 4 (by decide) (htB _ zm_0) (fun _ h9 => h9) rfl dX0_add_14 ?_
    refine lv_iload_n hx hb dX0_add_17 rfl (lv_at hl 1 rfl) ?_
    have hPc : va_P D zCl [((ah 0), .inl (cy, 10, .inl (S 0)))] H := hP.sub [1] rfl
    have hDc : va_D A [((ah 0), .inl (cy, 10, .inl (S 0)))] := hD.sub [1] (by decide) rfl
    refine zc_v (ws' := fun u => (bX0 ah cy (va_up S 0 u))) (va_runSN (As := [.ref (ah 0), .int (S 4 0), .int i1]) (rest := []) ⟨hx, hb, hml, hown, htB⟩ (c_X4_put l D cy (ah 0) H.size 10 (S 4 0) i1 (S 0) h) ⟨va_cnB 3 htB (zgN zm_3) rfl rfl rfl (hN _ zm_2) (htB _ zm_4) hd_X4_put.2 ⟨Nat.le_of_ble_eq_true rfl, Nat.le_of_ble_eq_true rfl⟩, htB _ zm_5, trivial⟩ ⟨zM_blind, zM_pre hPc hK hN hDc⟩ rfl rfl hl.1 rfl (lv_room (Nat.le_of_ble_eq_true rfl)) dX0_add_18 ⟨Nat.zero_le _, Nat.zero_le _⟩) hS hA hP hD [1] [0, 2, 3, 4] [0, 4, 1, 2, 3] (by decide) rfl (by decide) (by decide) rfl (fun u => rfl) (fun u => rfl) (fun u => rfl) (fun u H locs h hP hD hS => ?_)
    obtain ⟨gf0_18, eu⟩ : ∃ z, z = u := ⟨_, rfl⟩
    subst eu
    replace hP : va_P D zCl (bX0 ah cy (va_up S 0 gf0_18)) H := hP
    replace hD : va_D A (bX0 ah cy (va_up S 0 gf0_18)) := hD
    obtain ⟨S_18, eS_18⟩ : ∃ z : zT, z = (va_up S 0 gf0_18) := ⟨_, rfl⟩
    replace h := h S_18 eS_18
    replace hP : va_P D zCl (bX0 ah cy S_18) H := by rw [eS_18]; exact hP
    replace hD : va_D A (bX0 ah cy S_18) := by rw [eS_18]; exact hD
    refine lv_aload_n hx hb dX0_add_21 rfl (lv_at hl 0 rfl) ?_
    refine va_get (D := D) (ci := 0) (v := .ref (ah 1)) (C := RX0) (T := TX0) (N := 5) hx hb htB ziX0 hown hK hP 0 rfl rfl 1 (by decide) (htB _ zm_6) (fun _ h9 => h9) rfl dX0_add_22 ?_
    refine lv_aload_n hx hb dX0_add_25 rfl (lv_at hl 0 rfl) ?_
    refine va_get (D := D) (ci := 0) (v := .int (S_18 4 0)) (C := RX0) (T := TX0) (N := 5) hx hb htB ziX0 hown hK hP 0 rfl rfl 4 (by decide) (htB _ zm_0) (fun _ h9 => h9) rfl dX0_add_26 ?_
    refine lv_iload_n hx hb dX0_add_29 rfl (lv_at hl 2 rfl) ?_
    have hPc : va_P D zCl [((ah 1), .inl (cy, 10, .inl (S_18 1)))] H := hP.sub [2] rfl
    have hDc : va_D A [((ah 1), .inl (cy, 10, .inl (S_18 1)))] := hD.sub [2] (by decide) rfl
    refine zc_v (ws' := fun u => (bX0 ah cy (va_up S_18 1 u))) (va_runSN (As := [.ref (ah 1), .int (S_18 4 0), .int i2]) (rest := []) ⟨hx, hb, hml, hown, htB⟩ (c_X4_put l D cy (ah 1) H.size 10 (S_18 4 0) i2 (S_18 1) h) ⟨va_cnB 3 htB (zgN zm_3) rfl rfl rfl (hN _ zm_2) (htB _ zm_4) hd_X4_put.2 ⟨Nat.le_of_ble_eq_true rfl, Nat.le_of_ble_eq_true rfl⟩, htB _ zm_5, trivial⟩ ⟨zM_blind, zM_pre hPc hK hN hDc⟩ rfl rfl hl.1 rfl (lv_room (Nat.le_of_ble_eq_true rfl)) dX0_add_30 ⟨Nat.zero_le _, Nat.zero_le _⟩) hS hA hP hD [2] [0, 1, 3, 4] [0, 1, 4, 2, 3] (by decide) rfl (by decide) (by decide) rfl (fun u => rfl) (fun u => rfl) (fun u => rfl) (fun u H locs h hP hD hS => ?_)
    obtain ⟨gf0_30, eu⟩ : ∃ z, z = u := ⟨_, rfl⟩
    subst eu
    replace hP : va_P D zCl (bX0 ah cy (va_up S_18 1 gf0_30)) H := hP
    replace hD : va_D A (bX0 ah cy (va_up S_18 1 gf0_30)) := hD
    obtain ⟨S_30, eS_30⟩ : ∃ z : zT, z = (va_up S_18 1 gf0_30) := ⟨_, rfl⟩
    replace h := h S_30 eS_30
    replace hP : va_P D zCl (bX0 ah cy S_30) H := by rw [eS_30]; exact hP
    replace hD : va_D A (bX0 ah cy S_30) := by rw [eS_30]; exact hD
    refine lv_aload_n hx hb dX0_add_33 rfl (lv_at hl 0 rfl) ?_
    refine va_get (D := D) (ci := 0) (v := .ref (ah 2)) (C := RX0) (T := TX0) (N := 5) hx hb htB ziX0 hown hK hP 0 rfl rfl 2 (by decide) (htB _ zm_7) (fun _ h9 => h9) rfl dX0_add_34 ?_
    refine lv_aload_n hx hb dX0_add_37 rfl (lv_at hl 0 rfl) ?_
    refine va_get (D := D) (ci := 0) (v := .int (S_30 4 0)) (C := RX0) (T := TX0) (N := 5) hx hb htB ziX0 hown hK hP 0 rfl rfl 4 (by decide) (htB _ zm_0) (fun _ h9 => h9) rfl dX0_add_38 ?_
    refine lv_iload_n hx hb dX0_add_41 rfl (lv_at hl 3 rfl) ?_
    have hPc : va_P D zCl [((ah 2), .inl (cy, 10, .inl (S_30 2)))] H := hP.sub [3] rfl
    have hDc : va_D A [((ah 2), .inl (cy, 10, .inl (S_30 2)))] := hD.sub [3] (by decide) rfl
    refine zc_v (ws' := fun u => (bX0 ah cy (va_up S_30 2 u))) (va_runSN (As := [.ref (ah 2), .int (S_30 4 0), .int i3]) (rest := []) ⟨hx, hb, hml, hown, htB⟩ (c_X4_put l D cy (ah 2) H.size 10 (S_30 4 0) i3 (S_30 2) h) ⟨va_cnB 3 htB (zgN zm_3) rfl rfl rfl (hN _ zm_2) (htB _ zm_4) hd_X4_put.2 ⟨Nat.le_of_ble_eq_true rfl, Nat.le_of_ble_eq_true rfl⟩, htB _ zm_5, trivial⟩ ⟨zM_blind, zM_pre hPc hK hN hDc⟩ rfl rfl hl.1 rfl (lv_room (Nat.le_of_ble_eq_true rfl)) dX0_add_42 ⟨Nat.zero_le _, Nat.zero_le _⟩) hS hA hP hD [3] [0, 1, 2, 4] [0, 1, 2, 4, 3] (by decide) rfl (by decide) (by decide) rfl (fun u => rfl) (fun u => rfl) (fun u => rfl) (fun u H locs h hP hD hS => ?_)
    obtain ⟨gf0_42, eu⟩ : ∃ z, z = u := ⟨_, rfl⟩
    subst eu
    replace hP : va_P D zCl (bX0 ah cy (va_up S_30 2 gf0_42)) H := hP
    replace hD : va_D A (bX0 ah cy (va_up S_30 2 gf0_42)) := hD
    obtain ⟨S_42, eS_42⟩ : ∃ z : zT, z = (va_up S_30 2 gf0_42) := ⟨_, rfl⟩
    replace h := h S_42 eS_42
    replace hP : va_P D zCl (bX0 ah cy S_42) H := by rw [eS_42]; exact hP
    replace hD : va_D A (bX0 ah cy S_42) := by rw [eS_42]; exact hD
    refine lv_aload_n hx hb dX0_add_45 rfl (lv_at hl 0 rfl) ?_
    refine va_get (D := D) (ci := 0) (v := .ref (ah 3)) (C := RX0) (T := TX0) (N := 5) hx hb htB ziX0 hown hK hP 0 rfl rfl 3 (by decide) (htB _ zm_8) (fun _ h9 => h9) rfl dX0_add_46 ?_
    refine lv_aload_n hx hb dX0_add_49 rfl (lv_at hl 0 rfl) ?_
    refine va_get (D := D) (ci := 0) (v := .int (S_42 4 0)) (C := RX0) (T := TX0) (N := 5) hx hb htB ziX0 hown hK hP 0 rfl rfl 4 (by decide) (htB _ zm_0) (fun _ h9 => h9) rfl dX0_add_50 ?_
    refine lv_iload hx hb dX0_add_53 (lv_at hl 4 rfl) ?_
    have hPc : va_P D zCl [((ah 3), .inl (cy, 10, .inl (S_42 3)))] H := hP.sub [4] rfl
    have hDc : va_D A [((ah 3), .inl (cy, 10, .inl (S_42 3)))] := hD.sub [4] (by decide) rfl
    refine zc_v (ws' := fun u => (bX0 ah cy (va_up S_42 3 u))) (va_runSN (As := [.ref (ah 3), .int (S_42 4 0), .int i4]) (rest := []) ⟨hx, hb, hml, hown, htB⟩ (c_X4_put l D cy (ah 3) H.size 10 (S_42 4 0) i4 (S_42 3) h) ⟨va_cnB 3 htB (zgN zm_3) rfl rfl rfl (hN _ zm_2) (htB _ zm_4) hd_X4_put.2 ⟨Nat.le_of_ble_eq_true rfl, Nat.le_of_ble_eq_true rfl⟩, htB _ zm_5, trivial⟩ ⟨zM_blind, zM_pre hPc hK hN hDc⟩ rfl rfl hl.1 rfl (lv_room (Nat.le_of_ble_eq_true rfl)) dX0_add_55 ⟨Nat.zero_le _, Nat.zero_le _⟩) hS hA hP hD [4] [0, 1, 2, 3] [0, 1, 2, 3, 4] (by decide) rfl (by decide) (by decide) rfl (fun u => rfl) (fun u => rfl) (fun u => rfl) (fun u H locs h hP hD hS => ?_)
    obtain ⟨gf0_55, eu⟩ : ∃ z, z = u := ⟨_, rfl⟩
    subst eu
    replace hP : va_P D zCl (bX0 ah cy (va_up S_42 3 gf0_55)) H := hP
    replace hD : va_D A (bX0 ah cy (va_up S_42 3 gf0_55)) := hD
    obtain ⟨S_55, eS_55⟩ : ∃ z : zT, z = (va_up S_42 3 gf0_55) := ⟨_, rfl⟩
    replace h := h S_55 eS_55
    replace hP : va_P D zCl (bX0 ah cy S_55) H := by rw [eS_55]; exact hP
    replace hD : va_D A (bX0 ah cy S_55) := by rw [eS_55]; exact hD
    refine lv_aload_n hx hb dX0_add_58 rfl (lv_at hl 0 rfl) ?_
    refine lv_dup hx hb dX0_add_59 rfl ?_
    refine va_get (D := D) (ci := 0) (v := .int (S_55 4 0)) (C := RX0) (T := TX0) (N := 5) hx hb htB ziX0 hown hK hP 0 rfl rfl 4 (by decide) (htB _ zm_0) (fun _ h9 => h9) rfl dX0_add_60 ?_
    refine lv_iconst (v := (1 : Int32)) hx hb dX0_add_63 (by decide) ?_
    refine lv_iadd hx hb dX0_add_64 ?_
    refine va_put (D := D) (ci := 0) (v := .int ((S_55 4 0) + (1 : Int32))) (ty := .int) (C := RX0) (T := TX0) (N := 5) hx hb htB ziX0 tyX0 tyX0_ok nmX0 hown hK hP hD hS 0 rfl rfl 4 (by decide) (htB _ zm_0) (fun _ h9 => h9) rfl (tyX0_ok 4 (by decide)) rfl rfl (Nat.le_of_ble_eq_true rfl) dX0_add_65 (fun H locs hP hD hS => ?_)
    obtain ⟨S_65, eS_65⟩ : ∃ z : zT, z = (va_up S_55 4 (fun _ => ((S_55 4 0) + (1 : Int32)))) := ⟨_, rfl⟩
    replace h := h S_65 eS_65
    replace hP : va_P D zCl (bX0 ah cy S_65) H := by rw [eS_65]; exact hP
    replace hD : va_D A (bX0 ah cy S_65) := by rw [eS_65]; exact hD
    exact W.vret hx hb hr (fun t ht hW => ⟨⟨S_65, rfl, h, zP_h ht hP⟩, hS.F ht⟩) hS.2.2 dX0_add_68
set_option maxHeartbeats 4000000 in
set_option maxRecDepth 100000 in
theorem c_X4_copyRow (l : Launch) (D : va_G) (cy : ClassId) (q0 : Nat) (q1 : Nat) (sz : Nat) (n0 : Nat) (n1 : Nat) (f0 : Nat → Int32) (f1 : Nat → Int32) {Q : (Nat → Int32) → Prop} (h : wp_X4_copyRow n0 n1 f0 f1 Q) : Met l yX4_copyRow w_X4_copyRow rm_X4_copyRow (va_Pc [.ref q0, .ref q1] (zM D cy ([(q0, .inl (cy, n0, .inl f0))] ++ ([(q1, .inl (cy, n1, .inl f1))])) sz)) (va_Qv (S := (Nat → Int32)) (fun (u : (Nat → Int32)) => Q u) (fun u t => va_P D zCl ((fun (u : (Nat → Int32)) => ([(q0, .inl (cy, n0, .inl f0))] ++ ([(q1, .inl (cy, n1, .inl u))]))) u) t.heap) (va_A ([(q0, .inl (cy, n0, .inl f0))] ++ ([(q1, .inl (cy, n1, .inl f1))])) sz)) 0 0 (va_A ([(q0, .inl (cy, n0, .inl f0))] ++ ([(q1, .inl (cy, n1, .inl f1))])) sz) := by
  refine zOf_v (by decide) (Nat.le_of_ble_eq_true rfl) ?_
  intro p e s m below meth c ls A H locs hx hb hr hml hown htB hlocks hK hN hP hD hS hA hl
  replace hl : lv_has ls 3 [(0, .ref q0), (1, .ref q1)] := hl
  have L2 : ∀ (k2 : Nat) (x2 : Int32) (f1 : Nat → Int32), wpl_X4_copyRow_2 n0 n1 f0 Q k2 x2 f1 → ∀ (H : Heap) (locs : List Loc), va_P D zCl ([(q0, .inl (cy, n0, .inl f0))] ++ ([(q1, .inl (cy, n1, .inl f1))])) H → va_D A ([(q0, .inl (cy, n0, .inl f0))] ++ ([(q1, .inl (cy, n1, .inl f1))])) → va_S A s.heap H locs → ∀ ls : Array Slot, lv_has ls 3 [(0, .ref q0), (1, .ref q1), (2, .int x2)] → W p l e rm_X4_copyRow s m ([.ref q0, .ref q1] : List Value).toArray below meth c H locs 0 0 (MQ below (va_Qv (S := (Nat → Int32)) (fun (u : (Nat → Int32)) => Q u) (fun u t => va_P D zCl ((fun (u : (Nat → Int32)) => ([(q0, .inl (cy, n0, .inl f0))] ++ ([(q1, .inl (cy, n1, .inl u))]))) u) t.heap) A) ([.ref q0, .ref q1] : List Value).toArray s 0 0 A) (F0 m 2 ls []) := by
    intro k2
    induction k2 with
    | zero => exact fun x2 f1 h => False.elim h
    | succ k2 ih2 =>
      intro x2 f1 h H locs hP hD hS ls hl
      refine lv_iload_n hx hb dX4_copyRow_2 rfl (lv_at hl 2 rfl) ?_
      refine lv_aload_n hx hb dX4_copyRow_3 rfl (lv_at hl 0 rfl) ?_
      refine va_alen (D := D) (v := (nI n0)) hx hb hK hP 0 0 rfl rfl rfl dX4_copyRow_4 ?_
      refine lv_icmp_ge (tgt := 26) hx hb dX4_copyRow_5 (by decide) (fun c5 => ?_) (fun c5 => ?_)
      · replace h := And.left h c5
        exact W.vret hx hb hr (fun t ht hW => ⟨⟨f1, rfl, h, zP_h ht hP⟩, hS.F ht⟩) hS.2.2 dX4_copyRow_26
      · replace h := And.right h c5
        refine lv_iload_n hx hb dX4_copyRow_8 rfl (lv_at hl 2 rfl) ?_
        refine lv_aload_n hx hb dX4_copyRow_9 rfl (lv_at hl 1 rfl) ?_
        refine va_alen (D := D) (v := (nI n1)) hx hb hK hP 1 0 rfl rfl rfl dX4_copyRow_10 ?_
        refine lv_icmp_ge (tgt := 26) hx hb dX4_copyRow_11 (by decide) (fun c11 => ?_) (fun c11 => ?_)
        · replace h := And.left h c11
          exact W.vret hx hb hr (fun t ht hW => ⟨⟨f1, rfl, h, zP_h ht hP⟩, hS.F ht⟩) hS.2.2 dX4_copyRow_26
        · replace h := And.right h c11
          refine lv_aload_n hx hb dX4_copyRow_14 rfl (lv_at hl 1 rfl) ?_
          refine lv_iload_n hx hb dX4_copyRow_15 rfl (lv_at hl 2 rfl) ?_
          refine lv_aload_n hx hb dX4_copyRow_16 rfl (lv_at hl 0 rfl) ?_
          refine lv_iload_n hx hb dX4_copyRow_17 rfl (lv_at hl 2 rfl) ?_
          refine va_iald (D := D) hx hb hK hP 0 0 rfl rfl (And.left h) dX4_copyRow_18 ?_
          replace h := And.right h
          refine va_iast (D := D) hx hb hK hP hD hS 1 0 rfl rfl (And.left h) dX4_copyRow_19 (fun H locs hP hD hS => ?_)
          replace h := And.right h
          obtain ⟨f1_19, ef1_19⟩ : ∃ z : Nat → Int32, z = (upd f1 x2.toNatClampNeg (f0 x2.toNatClampNeg)) := ⟨_, rfl⟩
          replace h := h f1_19 ef1_19
          replace hP : va_P D zCl ([(q0, .inl (cy, n0, .inl f0))] ++ ([(q1, .inl (cy, n1, .inl f1_19))])) H := by rw [ef1_19]; exact hP
          replace hD : va_D A ([(q0, .inl (cy, n0, .inl f0))] ++ ([(q1, .inl (cy, n1, .inl f1_19))])) := by rw [ef1_19]; exact hD
          obtain ⟨y20, ey20⟩ : ∃ z : Int32, z = (x2 + (1 : Int32)) := ⟨_, rfl⟩
          replace h := h y20 ey20
          refine lv_iinc (v := y20) (lv' := [(2, .int y20), (0, .ref q0), (1, .ref q1)]) hx hb dX4_copyRow_20 hl (k := 2) rfl (by rw [ey20]; rfl) (by decide) rfl (fun ls hl => ?_)
          refine lv_goto (tgt := 2) hx hb dX4_copyRow_23 (by decide) ?_
          exact ih2 y20 f1_19 h H locs hP hD hS ls (lv_sub hl [1, 2, 0] rfl)
  refine lv_iconst (v := (0 : Int32)) hx hb dX4_copyRow_0 (by decide) ?_
  refine lv_istore_n (lv' := [(2, .int (0 : Int32)), (0, .ref q0), (1, .ref q1)]) hx hb dX4_copyRow_1 rfl hl (by decide) rfl (fun ls hl => ?_)
  obtain ⟨nn, h⟩ := h
  exact L2 nn (0 : Int32) f1 h H locs hP hD hS ls (lv_sub hl [1, 2, 0] rfl)
set_option maxHeartbeats 4000000 in
set_option maxRecDepth 100000 in
theorem c_X0_become (l : Launch) (D : va_G) (cy : ClassId) (ah : Nat → Nat) (ao1 : Nat → Nat) (sz : Nat) (So1 : zT) (S : zT) {Q : zT → Prop} (h : wp_X0_become So1 S Q) : Met l yX0_become w_X0_become rm_X0_become (va_Pc [.ref (ah 99), .ref (ao1 99)] (zM D cy ((bX0 ah cy S) ++ ((bX0 ao1 cy So1))) sz)) (va_Qv (S := zT) (fun (u : zT) => Q u) (fun u t => va_P D zCl ((fun (u : zT) => ((bX0 ah cy u) ++ ((bX0 ao1 cy So1)))) u) t.heap) (va_A ((bX0 ah cy S) ++ ((bX0 ao1 cy So1))) sz)) 0 0 (va_A ((bX0 ah cy S) ++ ((bX0 ao1 cy So1))) sz) := by
  refine zOf_v (by decide) (Nat.le_of_ble_eq_true rfl) ?_
  intro p e s m below meth c ls A H locs hx hb hr hml hown htB hlocks hK hN hP hD hS hA hl
  replace hl : lv_has ls 2 [(0, .ref (ah 99)), (1, .ref (ao1 99))] := hl
  refine lv_aload_n hx hb dX0_become_0 rfl (lv_at hl 1 rfl) ?_
  refine va_get (D := D) (ci := 0) (v := .ref (ao1 0)) (C := RX0) (T := TX0) (N := 5) hx hb htB ziX0 hown hK hP 5 rfl rfl 0 (by decide) (htB _ zm_1) (fun _ h9 => h9) rfl dX0_become_1 ?_
  refine lv_aload_n hx hb dX0_become_4 rfl (lv_at hl 0 rfl) ?_
  refine va_get (D := D) (ci := 0) (v := .ref (ah 0)) (C := RX0) (T := TX0) (N := 5) hx hb htB ziX0 hown hK hP 0 rfl rfl 0 (by decide) (htB _ zm_1) (fun _ h9 => h9) rfl dX0_become_5 ?_
  have hPc : va_P D zCl ([((ao1 0), .inl (cy, 10, .inl (So1 0)))] ++ ([((ah 0), .inl (cy, 10, .inl (S 0)))])) H := hP.sub [6, 1] rfl
  have hDc : va_D A ([((ao1 0), .inl (cy, 10, .inl (So1 0)))] ++ ([((ah 0), .inl (cy, 10, .inl (S 0)))])) := hD.sub [6, 1] (by decide) rfl
  refine zc_v (ws' := fun u => ((bX0 ah cy (va_up S 0 u)) ++ ((bX0 ao1 cy So1)))) (va_runSN (As := [.ref (ao1 0), .ref (ah 0)]) (rest := []) ⟨hx, hb, hml, hown, htB⟩ (c_X4_copyRow l D cy (ao1 0) (ah 0) H.size 10 10 (So1 0) (S 0) h) ⟨va_cnB 2 htB (zgN zm_10) rfl rfl rfl (hN _ zm_9) (htB _ zm_4) hd_X4_copyRow.2 ⟨Nat.le_of_ble_eq_true rfl, Nat.le_of_ble_eq_true rfl⟩, htB _ zm_11, trivial⟩ ⟨zM_blind, zM_pre hPc hK hN hDc⟩ rfl rfl hl.1 rfl (lv_room (Nat.le_of_ble_eq_true rfl)) dX0_become_8 ⟨Nat.zero_le _, Nat.zero_le _⟩) hS hA hP hD [6, 1] [0, 2, 3, 4, 5, 7, 8, 9] [0, 9, 1, 2, 3, 4, 8, 5, 6, 7] (by decide) rfl (by decide) (by decide) rfl (fun u => rfl) (fun u => rfl) (fun u => rfl) (fun u H locs h hP hD hS => ?_)
  obtain ⟨gf1_8, eu⟩ : ∃ z, z = u := ⟨_, rfl⟩
  subst eu
  replace hP : va_P D zCl ((bX0 ah cy (va_up S 0 gf1_8)) ++ ((bX0 ao1 cy So1))) H := hP
  replace hD : va_D A ((bX0 ah cy (va_up S 0 gf1_8)) ++ ((bX0 ao1 cy So1))) := hD
  obtain ⟨S_8, eS_8⟩ : ∃ z : zT, z = (va_up S 0 gf1_8) := ⟨_, rfl⟩
  replace h := h S_8 eS_8
  replace hP : va_P D zCl ((bX0 ah cy S_8) ++ ((bX0 ao1 cy So1))) H := by rw [eS_8]; exact hP
  replace hD : va_D A ((bX0 ah cy S_8) ++ ((bX0 ao1 cy So1))) := by rw [eS_8]; exact hD
  refine lv_aload_n hx hb dX0_become_11 rfl (lv_at hl 1 rfl) ?_
  refine va_get (D := D) (ci := 0) (v := .ref (ao1 1)) (C := RX0) (T := TX0) (N := 5) hx hb htB ziX0 hown hK hP 5 rfl rfl 1 (by decide) (htB _ zm_6) (fun _ h9 => h9) rfl dX0_become_12 ?_
  refine lv_aload_n hx hb dX0_become_15 rfl (lv_at hl 0 rfl) ?_
  refine va_get (D := D) (ci := 0) (v := .ref (ah 1)) (C := RX0) (T := TX0) (N := 5) hx hb htB ziX0 hown hK hP 0 rfl rfl 1 (by decide) (htB _ zm_6) (fun _ h9 => h9) rfl dX0_become_16 ?_
  have hPc : va_P D zCl ([((ao1 1), .inl (cy, 10, .inl (So1 1)))] ++ ([((ah 1), .inl (cy, 10, .inl (S_8 1)))])) H := hP.sub [7, 2] rfl
  have hDc : va_D A ([((ao1 1), .inl (cy, 10, .inl (So1 1)))] ++ ([((ah 1), .inl (cy, 10, .inl (S_8 1)))])) := hD.sub [7, 2] (by decide) rfl
  refine zc_v (ws' := fun u => ((bX0 ah cy (va_up S_8 1 u)) ++ ((bX0 ao1 cy So1)))) (va_runSN (As := [.ref (ao1 1), .ref (ah 1)]) (rest := []) ⟨hx, hb, hml, hown, htB⟩ (c_X4_copyRow l D cy (ao1 1) (ah 1) H.size 10 10 (So1 1) (S_8 1) h) ⟨va_cnB 2 htB (zgN zm_10) rfl rfl rfl (hN _ zm_9) (htB _ zm_4) hd_X4_copyRow.2 ⟨Nat.le_of_ble_eq_true rfl, Nat.le_of_ble_eq_true rfl⟩, htB _ zm_11, trivial⟩ ⟨zM_blind, zM_pre hPc hK hN hDc⟩ rfl rfl hl.1 rfl (lv_room (Nat.le_of_ble_eq_true rfl)) dX0_become_19 ⟨Nat.zero_le _, Nat.zero_le _⟩) hS hA hP hD [7, 2] [0, 1, 3, 4, 5, 6, 8, 9] [0, 1, 9, 2, 3, 4, 5, 8, 6, 7] (by decide) rfl (by decide) (by decide) rfl (fun u => rfl) (fun u => rfl) (fun u => rfl) (fun u H locs h hP hD hS => ?_)
  obtain ⟨gf1_19, eu⟩ : ∃ z, z = u := ⟨_, rfl⟩
  subst eu
  replace hP : va_P D zCl ((bX0 ah cy (va_up S_8 1 gf1_19)) ++ ((bX0 ao1 cy So1))) H := hP
  replace hD : va_D A ((bX0 ah cy (va_up S_8 1 gf1_19)) ++ ((bX0 ao1 cy So1))) := hD
  obtain ⟨S_19, eS_19⟩ : ∃ z : zT, z = (va_up S_8 1 gf1_19) := ⟨_, rfl⟩
  replace h := h S_19 eS_19
  replace hP : va_P D zCl ((bX0 ah cy S_19) ++ ((bX0 ao1 cy So1))) H := by rw [eS_19]; exact hP
  replace hD : va_D A ((bX0 ah cy S_19) ++ ((bX0 ao1 cy So1))) := by rw [eS_19]; exact hD
  refine lv_aload_n hx hb dX0_become_22 rfl (lv_at hl 1 rfl) ?_
  refine va_get (D := D) (ci := 0) (v := .ref (ao1 2)) (C := RX0) (T := TX0) (N := 5) hx hb htB ziX0 hown hK hP 5 rfl rfl 2 (by decide) (htB _ zm_7) (fun _ h9 => h9) rfl dX0_become_23 ?_
  refine lv_aload_n hx hb dX0_become_26 rfl (lv_at hl 0 rfl) ?_
  refine va_get (D := D) (ci := 0) (v := .ref (ah 2)) (C := RX0) (T := TX0) (N := 5) hx hb htB ziX0 hown hK hP 0 rfl rfl 2 (by decide) (htB _ zm_7) (fun _ h9 => h9) rfl dX0_become_27 ?_
  have hPc : va_P D zCl ([((ao1 2), .inl (cy, 10, .inl (So1 2)))] ++ ([((ah 2), .inl (cy, 10, .inl (S_19 2)))])) H := hP.sub [8, 3] rfl
  have hDc : va_D A ([((ao1 2), .inl (cy, 10, .inl (So1 2)))] ++ ([((ah 2), .inl (cy, 10, .inl (S_19 2)))])) := hD.sub [8, 3] (by decide) rfl
  refine zc_v (ws' := fun u => ((bX0 ah cy (va_up S_19 2 u)) ++ ((bX0 ao1 cy So1)))) (va_runSN (As := [.ref (ao1 2), .ref (ah 2)]) (rest := []) ⟨hx, hb, hml, hown, htB⟩ (c_X4_copyRow l D cy (ao1 2) (ah 2) H.size 10 10 (So1 2) (S_19 2) h) ⟨va_cnB 2 htB (zgN zm_10) rfl rfl rfl (hN _ zm_9) (htB _ zm_4) hd_X4_copyRow.2 ⟨Nat.le_of_ble_eq_true rfl, Nat.le_of_ble_eq_true rfl⟩, htB _ zm_11, trivial⟩ ⟨zM_blind, zM_pre hPc hK hN hDc⟩ rfl rfl hl.1 rfl (lv_room (Nat.le_of_ble_eq_true rfl)) dX0_become_30 ⟨Nat.zero_le _, Nat.zero_le _⟩) hS hA hP hD [8, 3] [0, 1, 2, 4, 5, 6, 7, 9] [0, 1, 2, 9, 3, 4, 5, 6, 8, 7] (by decide) rfl (by decide) (by decide) rfl (fun u => rfl) (fun u => rfl) (fun u => rfl) (fun u H locs h hP hD hS => ?_)
  obtain ⟨gf1_30, eu⟩ : ∃ z, z = u := ⟨_, rfl⟩
  subst eu
  replace hP : va_P D zCl ((bX0 ah cy (va_up S_19 2 gf1_30)) ++ ((bX0 ao1 cy So1))) H := hP
  replace hD : va_D A ((bX0 ah cy (va_up S_19 2 gf1_30)) ++ ((bX0 ao1 cy So1))) := hD
  obtain ⟨S_30, eS_30⟩ : ∃ z : zT, z = (va_up S_19 2 gf1_30) := ⟨_, rfl⟩
  replace h := h S_30 eS_30
  replace hP : va_P D zCl ((bX0 ah cy S_30) ++ ((bX0 ao1 cy So1))) H := by rw [eS_30]; exact hP
  replace hD : va_D A ((bX0 ah cy S_30) ++ ((bX0 ao1 cy So1))) := by rw [eS_30]; exact hD
  refine lv_aload_n hx hb dX0_become_33 rfl (lv_at hl 1 rfl) ?_
  refine va_get (D := D) (ci := 0) (v := .ref (ao1 3)) (C := RX0) (T := TX0) (N := 5) hx hb htB ziX0 hown hK hP 5 rfl rfl 3 (by decide) (htB _ zm_8) (fun _ h9 => h9) rfl dX0_become_34 ?_
  refine lv_aload_n hx hb dX0_become_37 rfl (lv_at hl 0 rfl) ?_
  refine va_get (D := D) (ci := 0) (v := .ref (ah 3)) (C := RX0) (T := TX0) (N := 5) hx hb htB ziX0 hown hK hP 0 rfl rfl 3 (by decide) (htB _ zm_8) (fun _ h9 => h9) rfl dX0_become_38 ?_
  have hPc : va_P D zCl ([((ao1 3), .inl (cy, 10, .inl (So1 3)))] ++ ([((ah 3), .inl (cy, 10, .inl (S_30 3)))])) H := hP.sub [9, 4] rfl
  have hDc : va_D A ([((ao1 3), .inl (cy, 10, .inl (So1 3)))] ++ ([((ah 3), .inl (cy, 10, .inl (S_30 3)))])) := hD.sub [9, 4] (by decide) rfl
  refine zc_v (ws' := fun u => ((bX0 ah cy (va_up S_30 3 u)) ++ ((bX0 ao1 cy So1)))) (va_runSN (As := [.ref (ao1 3), .ref (ah 3)]) (rest := []) ⟨hx, hb, hml, hown, htB⟩ (c_X4_copyRow l D cy (ao1 3) (ah 3) H.size 10 10 (So1 3) (S_30 3) h) ⟨va_cnB 2 htB (zgN zm_10) rfl rfl rfl (hN _ zm_9) (htB _ zm_4) hd_X4_copyRow.2 ⟨Nat.le_of_ble_eq_true rfl, Nat.le_of_ble_eq_true rfl⟩, htB _ zm_11, trivial⟩ ⟨zM_blind, zM_pre hPc hK hN hDc⟩ rfl rfl hl.1 rfl (lv_room (Nat.le_of_ble_eq_true rfl)) dX0_become_41 ⟨Nat.zero_le _, Nat.zero_le _⟩) hS hA hP hD [9, 4] [0, 1, 2, 3, 5, 6, 7, 8] [0, 1, 2, 3, 9, 4, 5, 6, 7, 8] (by decide) rfl (by decide) (by decide) rfl (fun u => rfl) (fun u => rfl) (fun u => rfl) (fun u H locs h hP hD hS => ?_)
  obtain ⟨gf1_41, eu⟩ : ∃ z, z = u := ⟨_, rfl⟩
  subst eu
  replace hP : va_P D zCl ((bX0 ah cy (va_up S_30 3 gf1_41)) ++ ((bX0 ao1 cy So1))) H := hP
  replace hD : va_D A ((bX0 ah cy (va_up S_30 3 gf1_41)) ++ ((bX0 ao1 cy So1))) := hD
  obtain ⟨S_41, eS_41⟩ : ∃ z : zT, z = (va_up S_30 3 gf1_41) := ⟨_, rfl⟩
  replace h := h S_41 eS_41
  replace hP : va_P D zCl ((bX0 ah cy S_41) ++ ((bX0 ao1 cy So1))) H := by rw [eS_41]; exact hP
  replace hD : va_D A ((bX0 ah cy S_41) ++ ((bX0 ao1 cy So1))) := by rw [eS_41]; exact hD
  refine lv_aload_n hx hb dX0_become_44 rfl (lv_at hl 0 rfl) ?_
  refine lv_aload_n hx hb dX0_become_45 rfl (lv_at hl 1 rfl) ?_
  refine va_get (D := D) (ci := 0) (v := .int (So1 4 0)) (C := RX0) (T := TX0) (N := 5) hx hb htB ziX0 hown hK hP 5 rfl rfl 4 (by decide) (htB _ zm_0) (fun _ h9 => h9) rfl dX0_become_46 ?_
  refine va_put (D := D) (ci := 0) (v := .int (So1 4 0)) (ty := .int) (C := RX0) (T := TX0) (N := 5) hx hb htB ziX0 tyX0 tyX0_ok nmX0 hown hK hP hD hS 0 rfl rfl 4 (by decide) (htB _ zm_0) (fun _ h9 => h9) rfl (tyX0_ok 4 (by decide)) rfl rfl (Nat.le_of_ble_eq_true rfl) dX0_become_49 (fun H locs hP hD hS => ?_)
  obtain ⟨S_49, eS_49⟩ : ∃ z : zT, z = (va_up S_41 4 (fun _ => (So1 4 0))) := ⟨_, rfl⟩
  replace h := h S_49 eS_49
  replace hP : va_P D zCl ((bX0 ah cy S_49) ++ ((bX0 ao1 cy So1))) H := by rw [eS_49]; exact hP
  replace hD : va_D A ((bX0 ah cy S_49) ++ ((bX0 ao1 cy So1))) := by rw [eS_49]; exact hD
  exact W.vret hx hb hr (fun t ht hW => ⟨⟨S_49, rfl, h, zP_h ht hP⟩, hS.F ht⟩) hS.2.2 dX0_become_52
set_option maxHeartbeats 4000000 in
set_option maxRecDepth 100000 in
theorem c_X4_at (l : Launch) (D : va_G) (cy : ClassId) (q0 : Nat) (n0 : Nat) (f0 : Nat → Int32) (i1 : Int32) {Q : Int32 → Prop} (h : wp_X4_at n0 f0 i1 Q) : Met l yX4_at w_X4_at rm_X4_at (va_Pc [.ref q0, .int i1] (zR D cy [(q0, .inl (cy, n0, .inl f0))])) (vp_Si Q) 0 0 (fun _ => False) := by
  refine zOf_r (by decide) (Nat.le_of_ble_eq_true rfl) ?_
  intro p e s m below meth c ls hx hb hr hml hown htB hlocks hK hN hP hl
  replace hl : lv_has ls 2 [(0, .ref q0), (1, .int i1)] := hl
  refine lv_iload_n hx hb dX4_at_0 rfl (lv_at hl 1 rfl) ?_
  refine lv_if_lt (tgt := 16) hx hb dX4_at_1 (by decide) (fun c1 => ?_) (fun c1 => ?_)
  · replace h := And.left h c1
    refine lv_iconst (v := (0 : Int32)) hx hb dX4_at_16 (by decide) ?_
    exact W.iret (v := (0 : Int32)) hx hb hr (fun t ht hW => ⟨_, rfl, h, ht⟩) (fun q hq => by cases hq) dX4_at_17
  · replace h := And.right h c1
    refine lv_iload_n hx hb dX4_at_4 rfl (lv_at hl 1 rfl) ?_
    refine lv_aload_n hx hb dX4_at_5 rfl (lv_at hl 0 rfl) ?_
    refine va_alen (D := D) (v := (nI n0)) hx hb hK hP 0 0 rfl rfl rfl dX4_at_6 ?_
    refine lv_icmp_ge (tgt := 16) hx hb dX4_at_7 (by decide) (fun c7 => ?_) (fun c7 => ?_)
    · replace h := And.left h c7
      refine lv_iconst (v := (0 : Int32)) hx hb dX4_at_16 (by decide) ?_
      exact W.iret (v := (0 : Int32)) hx hb hr (fun t ht hW => ⟨_, rfl, h, ht⟩) (fun q hq => by cases hq) dX4_at_17
    · replace h := And.right h c7
      refine lv_aload_n hx hb dX4_at_10 rfl (lv_at hl 0 rfl) ?_
      refine lv_iload_n hx hb dX4_at_11 rfl (lv_at hl 1 rfl) ?_
      refine va_iald (D := D) hx hb hK hP 0 0 rfl rfl (And.left h) dX4_at_12 ?_
      replace h := And.right h
      refine lv_goto (tgt := 17) hx hb dX4_at_13 (by decide) ?_
      exact W.iret (v := (f0 i1.toNatClampNeg)) hx hb hr (fun t ht hW => ⟨_, rfl, h, ht⟩) (fun q hq => by cases hq) dX4_at_17
set_option maxHeartbeats 4000000 in
set_option maxRecDepth 100000 in
theorem c_X4_filmUpTo (l : Launch) (D : va_G) (cy : ClassId)  (i0 : Int32) (i1 : Int32) (i2 : Int32) (i3 : Int32) {Q : Int32 → Prop} (h : wp_X4_filmUpTo i0 i1 i2 i3 Q) : Met l yX4_filmUpTo w_X4_filmUpTo rm_X4_filmUpTo (va_Pc [.int i0, .int i1, .int i2, .int i3] (zR D cy ([] : va_W))) (vp_Si Q) 0 0 (fun _ => False) := by
  refine zOf_r (by decide) (Nat.le_of_ble_eq_true rfl) ?_
  intro p e s m below meth c ls hx hb hr hml hown htB hlocks hK hN hP hl
  replace hl : lv_has ls 4 [(0, .int i0), (1, .int i1), (2, .int i2), (3, .int i3)] := hl
  refine lv_iload_n hx hb dX4_filmUpTo_0 rfl (lv_at hl 0 rfl) ?_
  by_cases c1_0 : i0 = (1 : Int32)
  · replace h := And.left h c1_0
    refine lv_tableIn (off := 27) (tgt := 28) hx hb dX4_filmUpTo_1 (by rw [c1_0]; decide) (by rw [c1_0]; decide) (by rw [c1_0]; rfl) (by decide) ?_
    refine lv_iload_n hx hb dX4_filmUpTo_28 rfl (lv_at hl 1 rfl) ?_
    exact W.iret (v := i1) hx hb hr (fun t ht hW => ⟨_, rfl, h, ht⟩) (fun q hq => by cases hq) dX4_filmUpTo_29
  · replace h := And.right h c1_0
    by_cases c1_1 : i0 = (2 : Int32)
    · replace h := And.left h c1_1
      refine lv_tableIn (off := 29) (tgt := 30) hx hb dX4_filmUpTo_1 (by rw [c1_1]; decide) (by rw [c1_1]; decide) (by rw [c1_1]; rfl) (by decide) ?_
      refine lv_iload_n hx hb dX4_filmUpTo_30 rfl (lv_at hl 2 rfl) ?_
      refine lv_iconst (v := (1 : Int32)) hx hb dX4_filmUpTo_31 (by decide) ?_
      refine lv_icmp_ne (tgt := 41) hx hb dX4_filmUpTo_32 (by decide) (fun c32 => ?_) (fun c32 => ?_)
      · replace h := And.right h c32
        refine lv_iload_n hx hb dX4_filmUpTo_41 rfl (lv_at hl 1 rfl) ?_
        exact W.iret (v := i1) hx hb hr (fun t ht hW => ⟨_, rfl, h, ht⟩) (fun q hq => by cases hq) dX4_filmUpTo_42
      · replace h := And.left h c32
        refine lv_iload_n hx hb dX4_filmUpTo_35 rfl (lv_at hl 1 rfl) ?_
        refine lv_iconst (v := (4 : Int32)) hx hb dX4_filmUpTo_36 (by decide) ?_
        refine lv_iadd hx hb dX4_filmUpTo_37 ?_
        refine lv_goto (tgt := 42) hx hb dX4_filmUpTo_38 (by decide) ?_
        exact W.iret (v := (i1 + (4 : Int32))) hx hb hr (fun t ht hW => ⟨_, rfl, h, ht⟩) (fun q hq => by cases hq) dX4_filmUpTo_42
    · replace h := And.right h c1_1
      by_cases c1_2 : i0 = (3 : Int32)
      · replace h := And.left h c1_2
        refine lv_tableIn (off := 42) (tgt := 43) hx hb dX4_filmUpTo_1 (by rw [c1_2]; decide) (by rw [c1_2]; decide) (by rw [c1_2]; rfl) (by decide) ?_
        refine lv_iload_n hx hb dX4_filmUpTo_43 rfl (lv_at hl 1 rfl) ?_
        refine lv_iconst (v := (2 : Int32)) hx hb dX4_filmUpTo_44 (by decide) ?_
        refine lv_iload_n hx hb dX4_filmUpTo_45 rfl (lv_at hl 3 rfl) ?_
        refine lv_imul hx hb dX4_filmUpTo_46 ?_
        refine lv_iadd hx hb dX4_filmUpTo_47 ?_
        exact W.iret (v := (i1 + ((2 : Int32) * i3))) hx hb hr (fun t ht hW => ⟨_, rfl, h, ht⟩) (fun q hq => by cases hq) dX4_filmUpTo_48
      · replace h := And.right h c1_2
        have z0 := lv_neT c1_0 (a := 1) rfl
        have z1 := lv_neT c1_1 (a := 2) rfl
        have z2 := lv_neT c1_2 (a := 3) rfl
        refine lv_tableOut (tgt := 49) hx hb dX4_filmUpTo_1 (by omega) (by decide) ?_
        refine lv_iconst (v := (0 : Int32)) hx hb dX4_filmUpTo_49 (by decide) ?_
        exact W.iret (v := (0 : Int32)) hx hb hr (fun t ht hW => ⟨_, rfl, h, ht⟩) (fun q hq => by cases hq) dX4_filmUpTo_50
set_option maxHeartbeats 4000000 in
set_option maxRecDepth 100000 in
theorem c_X0_allAreSo (l : Launch) (D : va_G) (cy : ClassId) (ah : Nat → Nat) (S : zT) (i1 : Int32) (i2 : Int32) {Q : Int32 → Prop} (h : wp_X0_allAreSo S i1 i2 Q) : Met l yX0_allAreSo w_X0_allAreSo rm_X0_allAreSo (va_Pc [.ref (ah 99), .int i1, .int i2] (zR D cy (bX0 ah cy S))) (vp_Si Q) 0 0 (fun _ => False) := by
  refine zOf_r (by decide) (Nat.le_of_ble_eq_true rfl) ?_
  intro p e s m below meth c ls hx hb hr hml hown htB hlocks hK hN hP hl
  replace hl : lv_has ls 5 [(0, .ref (ah 99)), (1, .int i1), (2, .int i2)] := hl
  have L2 : ∀ (k2 : Nat) (x3 : Int32), wpl_X0_allAreSo_2 S i1 i2 Q k2 x3 → ∀ ls : Array Slot, lv_has ls 5 [(0, .ref (ah 99)), (1, .int i1), (2, .int i2), (3, .int x3)] → W p l e rm_X0_allAreSo s m ([.ref (ah 99), .int i1, .int i2] : List Value).toArray below meth c s.heap [] 0 0 (MQ below (vp_Si Q) ([.ref (ah 99), .int i1, .int i2] : List Value).toArray s 0 0 (fun _ => False)) (F0 m 2 ls []) := by
    intro k2
    induction k2 with
    | zero => exact fun x3 h => False.elim h
    | succ k2 ih2 =>
      have L68 : ∀ (x3 : Int32) (t0 : Int32) (t1 : Int32), wpb_X0_allAreSo_68 S i1 i2 Q (wpl_X0_allAreSo_2 S i1 i2 Q k2) x3 t0 t1 → ∀ ls : Array Slot, lv_has ls 5 [(0, .ref (ah 99)), (1, .int i1), (2, .int i2), (3, .int x3)] → W p l e rm_X0_allAreSo s m ([.ref (ah 99), .int i1, .int i2] : List Value).toArray below meth c s.heap [] 0 0 (MQ below (vp_Si Q) ([.ref (ah 99), .int i1, .int i2] : List Value).toArray s 0 0 (fun _ => False)) (F0 m 68 ls [.int t1, .int t0]) := by
        intro x3 t0 t1 h ls hl
        refine lv_icmp_eq (tgt := 73) hx hb dX0_allAreSo_68 (by decide) (fun c68 => ?_) (fun c68 => ?_)
        · replace h := And.left h c68
          obtain ⟨y73, ey73⟩ : ∃ z : Int32, z = (x3 + (1 : Int32)) := ⟨_, rfl⟩
          replace h := h y73 ey73
          refine lv_iinc (v := y73) (lv' := [(3, .int y73), (0, .ref (ah 99)), (1, .int i1), (2, .int i2)]) hx hb dX0_allAreSo_73 hl (k := 3) rfl (by rw [ey73]; rfl) (by decide) rfl (fun ls hl => ?_)
          refine lv_goto (tgt := 2) hx hb dX0_allAreSo_76 (by decide) ?_
          exact ih2 y73 h ls (lv_sub hl [1, 2, 3, 0] rfl)
        · replace h := And.right h c68
          refine lv_iconst (v := (0 : Int32)) hx hb dX0_allAreSo_71 (by decide) ?_
          exact W.zret (v := (0 : Int32)) hx hb hr rfl (fun t ht hW => ⟨_, rfl, h, ht⟩) (fun q hq => by cases hq) dX0_allAreSo_72
      have L47 : ∀ (x3 : Int32) (t0 : Int32), wpb_X0_allAreSo_47 S i1 i2 Q (wpl_X0_allAreSo_2 S i1 i2 Q k2) x3 t0 → ∀ ls : Array Slot, lv_has ls 5 [(0, .ref (ah 99)), (1, .int i1), (2, .int i2), (3, .int x3)] → W p l e rm_X0_allAreSo s m ([.ref (ah 99), .int i1, .int i2] : List Value).toArray below meth c s.heap [] 0 0 (MQ below (vp_Si Q) ([.ref (ah 99), .int i1, .int i2] : List Value).toArray s 0 0 (fun _ => False)) (F0 m 47 ls [.int t0]) := by
        intro x3 t0 h ls hl
        refine lv_istore (lv' := [(4, .int t0), (0, .ref (ah 99)), (1, .int i1), (2, .int i2), (3, .int x3)]) hx hb dX0_allAreSo_47 hl (by decide) rfl (fun ls hl => ?_)
        refine lv_iload hx hb dX0_allAreSo_49 (lv_at hl 0 rfl) ?_
        refine lv_aload_n hx hb dX0_allAreSo_51 rfl (lv_at hl 1 rfl) ?_
        refine va_get (D := D) (ci := 0) (v := .ref (ah 3)) (C := RX0) (T := TX0) (N := 5) hx hb htB ziX0 hown hK hP 0 rfl rfl 3 (by decide) (htB _ zm_8) (fun _ h9 => h9) rfl dX0_allAreSo_52 ?_
        refine lv_iload_n hx hb dX0_allAreSo_55 rfl (lv_at hl 4 rfl) ?_
        have hPc : va_P D zCl [((ah 3), .inl (cy, 10, .inl (S 3)))] s.heap := hP.sub [4] rfl
        refine zc_r (va_runSN (As := [.ref (ah 3), .int x3]) (rest := [.int t0]) ⟨hx, hb, hml, hown, htB⟩ (c_X4_at l D cy (ah 3) 10 (S 3) x3 h) ⟨va_cnB 2 htB (zgN zm_13) rfl rfl rfl (hN _ zm_12) (htB _ zm_4) hd_X4_at.2 ⟨Nat.le_of_ble_eq_true rfl, Nat.le_of_ble_eq_true rfl⟩, htB _ zm_14, trivial⟩ ⟨zR_blind, zR_pre hPc hK hN⟩ rfl rfl hl.1 rfl (lv_room (Nat.le_of_ble_eq_true rfl)) dX0_allAreSo_56 ⟨Nat.zero_le _, Nat.zero_le _⟩) (fun r56 h => ?_)
        refine lv_iconst (v := (1 : Int32)) hx hb dX0_allAreSo_59 (by decide) ?_
        refine lv_icmp_ne (tgt := 67) hx hb dX0_allAreSo_60 (by decide) (fun c60 => ?_) (fun c60 => ?_)
        · replace h := And.right h c60
          refine lv_iconst (v := (0 : Int32)) hx hb dX0_allAreSo_67 (by decide) ?_
          exact L68 x3 t0 (0 : Int32) h ls (lv_sub hl [1, 2, 3, 4] rfl)
        · replace h := And.left h c60
          refine lv_iconst (v := (1 : Int32)) hx hb dX0_allAreSo_63 (by decide) ?_
          refine lv_goto (tgt := 68) hx hb dX0_allAreSo_64 (by decide) ?_
          exact L68 x3 t0 (1 : Int32) h ls (lv_sub hl [1, 2, 3, 4] rfl)
      intro x3 h ls hl
      refine lv_iload_n hx hb dX0_allAreSo_2 rfl (lv_at hl 3 rfl) ?_
      refine lv_aload_n hx hb dX0_allAreSo_3 rfl (lv_at hl 0 rfl) ?_
      refine va_get (D := D) (ci := 0) (v := .int (S 4 0)) (C := RX0) (T := TX0) (N := 5) hx hb htB ziX0 hown hK hP 0 rfl rfl 4 (by decide) (htB _ zm_0) (fun _ h9 => h9) rfl dX0_allAreSo_4 ?_
      refine lv_icmp_ge (tgt := 79) hx hb dX0_allAreSo_7 (by decide) (fun c7 => ?_) (fun c7 => ?_)
      · replace h := And.left h c7
        refine lv_iconst (v := (1 : Int32)) hx hb dX0_allAreSo_79 (by decide) ?_
        exact W.zret (v := (1 : Int32)) hx hb hr rfl (fun t ht hW => ⟨_, rfl, h, ht⟩) (fun q hq => by cases hq) dX0_allAreSo_80
      · replace h := And.right h c7
        refine lv_aload_n hx hb dX0_allAreSo_10 rfl (lv_at hl 0 rfl) ?_
        refine va_get (D := D) (ci := 0) (v := .ref (ah 0)) (C := RX0) (T := TX0) (N := 5) hx hb htB ziX0 hown hK hP 0 rfl rfl 0 (by decide) (htB _ zm_1) (fun _ h9 => h9) rfl dX0_allAreSo_11 ?_
        refine lv_iload_n hx hb dX0_allAreSo_14 rfl (lv_at hl 3 rfl) ?_
        have hPc : va_P D zCl [((ah 0), .inl (cy, 10, .inl (S 0)))] s.heap := hP.sub [1] rfl
        refine zc_r (va_runSN (As := [.ref (ah 0), .int x3]) (rest := []) ⟨hx, hb, hml, hown, htB⟩ (c_X4_at l D cy (ah 0) 10 (S 0) x3 h) ⟨va_cnB 2 htB (zgN zm_13) rfl rfl rfl (hN _ zm_12) (htB _ zm_4) hd_X4_at.2 ⟨Nat.le_of_ble_eq_true rfl, Nat.le_of_ble_eq_true rfl⟩, htB _ zm_14, trivial⟩ ⟨zR_blind, zR_pre hPc hK hN⟩ rfl rfl hl.1 rfl (lv_room (Nat.le_of_ble_eq_true rfl)) dX0_allAreSo_15 ⟨Nat.zero_le _, Nat.zero_le _⟩) (fun r15 h => ?_)
        refine lv_iload_n hx hb dX0_allAreSo_18 rfl (lv_at hl 1 rfl) ?_
        refine lv_iload_n hx hb dX0_allAreSo_19 rfl (lv_at hl 2 rfl) ?_
        refine lv_aload_n hx hb dX0_allAreSo_20 rfl (lv_at hl 0 rfl) ?_
        refine va_get (D := D) (ci := 0) (v := .ref (ah 1)) (C := RX0) (T := TX0) (N := 5) hx hb htB ziX0 hown hK hP 0 rfl rfl 1 (by decide) (htB _ zm_6) (fun _ h9 => h9) rfl dX0_allAreSo_21 ?_
        refine lv_iload_n hx hb dX0_allAreSo_24 rfl (lv_at hl 3 rfl) ?_
        have hPc : va_P D zCl [((ah 1), .inl (cy, 10, .inl (S 1)))] s.heap := hP.sub [2] rfl
        refine zc_r (va_runSN (As := [.ref (ah 1), .int x3]) (rest := [.int i2, .int i1, .int r15]) ⟨hx, hb, hml, hown, htB⟩ (c_X4_at l D cy (ah 1) 10 (S 1) x3 h) ⟨va_cnB 2 htB (zgN zm_13) rfl rfl rfl (hN _ zm_12) (htB _ zm_4) hd_X4_at.2 ⟨Nat.le_of_ble_eq_true rfl, Nat.le_of_ble_eq_true rfl⟩, htB _ zm_14, trivial⟩ ⟨zR_blind, zR_pre hPc hK hN⟩ rfl rfl hl.1 rfl (lv_room (Nat.le_of_ble_eq_true rfl)) dX0_allAreSo_25 ⟨Nat.zero_le _, Nat.zero_le _⟩) (fun r25 h => ?_)
        refine lv_aload_n hx hb dX0_allAreSo_28 rfl (lv_at hl 0 rfl) ?_
        refine va_get (D := D) (ci := 0) (v := .ref (ah 2)) (C := RX0) (T := TX0) (N := 5) hx hb htB ziX0 hown hK hP 0 rfl rfl 2 (by decide) (htB _ zm_7) (fun _ h9 => h9) rfl dX0_allAreSo_29 ?_
        refine lv_iload_n hx hb dX0_allAreSo_32 rfl (lv_at hl 3 rfl) ?_
        have hPc : va_P D zCl [((ah 2), .inl (cy, 10, .inl (S 2)))] s.heap := hP.sub [3] rfl
        refine zc_r (va_runSN (As := [.ref (ah 2), .int x3]) (rest := [.int r25, .int i2, .int i1, .int r15]) ⟨hx, hb, hml, hown, htB⟩ (c_X4_at l D cy (ah 2) 10 (S 2) x3 h) ⟨va_cnB 2 htB (zgN zm_13) rfl rfl rfl (hN _ zm_12) (htB _ zm_4) hd_X4_at.2 ⟨Nat.le_of_ble_eq_true rfl, Nat.le_of_ble_eq_true rfl⟩, htB _ zm_14, trivial⟩ ⟨zR_blind, zR_pre hPc hK hN⟩ rfl rfl hl.1 rfl (lv_room (Nat.le_of_ble_eq_true rfl)) dX0_allAreSo_33 ⟨Nat.zero_le _, Nat.zero_le _⟩) (fun r33 h => ?_)
        have hPc : va_P D zCl ([] : va_W) s.heap := hP.sub [] rfl
        refine zc_r (va_runSN (As := [.int i1, .int i2, .int r25, .int r33]) (rest := [.int r15]) ⟨hx, hb, hml, hown, htB⟩ (c_X4_filmUpTo l D cy  i1 i2 r25 r33 h) ⟨va_cnB 4 htB (zgN zm_16) rfl rfl rfl (hN _ zm_15) (htB _ zm_4) hd_X4_filmUpTo.2 ⟨Nat.le_of_ble_eq_true rfl, Nat.le_of_ble_eq_true rfl⟩, htB _ zm_17, trivial⟩ ⟨zR_blind, zR_pre hPc hK hN⟩ rfl rfl hl.1 rfl (lv_room (Nat.le_of_ble_eq_true rfl)) dX0_allAreSo_36 ⟨Nat.zero_le _, Nat.zero_le _⟩) (fun r36 h => ?_)
        refine lv_icmp_gt (tgt := 46) hx hb dX0_allAreSo_39 (by decide) (fun c39 => ?_) (fun c39 => ?_)
        · replace h := And.left h c39
          refine lv_iconst (v := (0 : Int32)) hx hb dX0_allAreSo_46 (by decide) ?_
          exact L47 x3 (0 : Int32) h ls (lv_sub hl [0, 1, 2, 3] rfl)
        · replace h := And.right h c39
          refine lv_iconst (v := (1 : Int32)) hx hb dX0_allAreSo_42 (by decide) ?_
          refine lv_goto (tgt := 47) hx hb dX0_allAreSo_43 (by decide) ?_
          exact L47 x3 (1 : Int32) h ls (lv_sub hl [0, 1, 2, 3] rfl)
  refine lv_iconst (v := (0 : Int32)) hx hb dX0_allAreSo_0 (by decide) ?_
  refine lv_istore_n (lv' := [(3, .int (0 : Int32)), (0, .ref (ah 99)), (1, .int i1), (2, .int i2)]) hx hb dX0_allAreSo_1 rfl hl (by decide) rfl (fun ls hl => ?_)
  obtain ⟨nn, h⟩ := h
  exact L2 nn (0 : Int32) h ls (lv_sub hl [1, 2, 3, 0] rfl)
set_option maxHeartbeats 4000000 in
set_option maxRecDepth 100000 in
theorem c_X1_findNext (l : Launch) (D : va_G) (cy : ClassId) (ah : Nat → Nat) (S : zT) {Q : Int32 → Prop} (h : wp_X1_findNext S Q) : Met l yX1_findNext w_X1_findNext rm_X1_findNext (va_Pc [.ref (ah 99)] (zR D cy (bX1 ah cy S))) (vp_Si Q) 0 0 (fun _ => False) := by
  refine zOf_r (by decide) (Nat.le_of_ble_eq_true rfl) ?_
  intro p e s m below meth c ls hx hb hr hml hown htB hlocks hK hN hP hl
  replace hl : lv_has ls 5 [(0, .ref (ah 99))] := hl
  have L7 : ∀ (k7 : Nat) (x1 : Int32) (x2 : Int32) (x3 : Int32), wpl_X1_findNext_7 S Q k7 x1 x2 x3 → ∀ ls : Array Slot, lv_has ls 5 [(0, .ref (ah 99)), (1, .int x1), (2, .int x2), (3, .int x3)] → W p l e rm_X1_findNext s m ([.ref (ah 99)] : List Value).toArray below meth c s.heap [] 0 0 (MQ below (vp_Si Q) ([.ref (ah 99)] : List Value).toArray s 0 0 (fun _ => False)) (F0 m 7 ls []) := by
    intro k7
    induction k7 with
    | zero => exact fun x1 x2 x3 h => False.elim h
    | succ k7 ih7 =>
      have L65 : ∀ (x1 : Int32) (x2 : Int32) (x3 : Int32), wpb_X1_findNext_65 S Q (wpl_X1_findNext_7 S Q k7) x1 x2 x3 → ∀ ls : Array Slot, lv_has ls 5 [(0, .ref (ah 99)), (1, .int x1), (2, .int x2), (3, .int x3)] → W p l e rm_X1_findNext s m ([.ref (ah 99)] : List Value).toArray below meth c s.heap [] 0 0 (MQ below (vp_Si Q) ([.ref (ah 99)] : List Value).toArray s 0 0 (fun _ => False)) (F0 m 65 ls []) := by
        intro x1 x2 x3 h ls hl
        obtain ⟨y65, ey65⟩ : ∃ z : Int32, z = (x3 + (1 : Int32)) := ⟨_, rfl⟩
        replace h := h y65 ey65
        refine lv_iinc (v := y65) (lv' := [(3, .int y65), (0, .ref (ah 99)), (1, .int x1), (2, .int x2)]) hx hb dX1_findNext_65 hl (k := 3) rfl (by rw [ey65]; rfl) (by decide) rfl (fun ls hl => ?_)
        refine lv_goto (tgt := 7) hx hb dX1_findNext_68 (by decide) ?_
        exact ih7 x1 x2 y65 h ls (lv_sub hl [1, 2, 3, 0] rfl)
      have L36 : ∀ (x1 : Int32) (x2 : Int32) (x3 : Int32) (t0 : Int32), wpb_X1_findNext_36 S Q (wpl_X1_findNext_7 S Q k7) x1 x2 x3 t0 → ∀ ls : Array Slot, lv_has ls 5 [(0, .ref (ah 99)), (1, .int x1), (2, .int x2), (3, .int x3)] → W p l e rm_X1_findNext s m ([.ref (ah 99)] : List Value).toArray below meth c s.heap [] 0 0 (MQ below (vp_Si Q) ([.ref (ah 99)] : List Value).toArray s 0 0 (fun _ => False)) (F0 m 36 ls [.int t0]) := by
        intro x1 x2 x3 t0 h ls hl
        refine lv_istore (lv' := [(4, .int t0), (0, .ref (ah 99)), (1, .int x1), (2, .int x2), (3, .int x3)]) hx hb dX1_findNext_36 hl (by decide) rfl (fun ls hl => ?_)
        refine lv_aload_n hx hb dX1_findNext_38 rfl (lv_at hl 1 rfl) ?_
        refine va_get (D := D) (ci := 1) (v := .ref (ah 9)) (C := RX1) (T := TX1) (N := 11) hx hb htB ziX1 hown hK hP 0 rfl rfl 9 (by decide) (htB _ zm_18) (fun _ h9 => h9) rfl dX1_findNext_39 ?_
        refine lv_iload_n hx hb dX1_findNext_42 rfl (lv_at hl 4 rfl) ?_
        have hPc : va_P D zCl [((ah 9), .inl (cy, 8, .inl (S 9)))] s.heap := hP.sub [10] rfl
        refine zc_r (va_runSN (As := [.ref (ah 9), .int x3]) (rest := []) ⟨hx, hb, hml, hown, htB⟩ (c_X4_at l D cy (ah 9) 8 (S 9) x3 h) ⟨va_cnB 2 htB (zgN zm_13) rfl rfl rfl (hN _ zm_19) (htB _ zm_4) hd_X4_at.2 ⟨Nat.le_of_ble_eq_true rfl, Nat.le_of_ble_eq_true rfl⟩, htB _ zm_14, trivial⟩ ⟨zR_blind, zR_pre hPc hK hN⟩ rfl rfl hl.1 rfl (lv_room (Nat.le_of_ble_eq_true rfl)) dX1_findNext_43 ⟨Nat.zero_le _, Nat.zero_le _⟩) (fun r43 h => ?_)
        refine lv_if_ne (tgt := 65) hx hb dX1_findNext_46 (by decide) (fun c46 => ?_) (fun c46 => ?_)
        · replace h := And.right h c46
          exact L65 x1 x2 x3 h ls (lv_sub hl [1, 2, 3, 4] rfl)
        · replace h := And.left h c46
          refine lv_iload hx hb dX1_findNext_49 (lv_at hl 0 rfl) ?_
          refine lv_if_eq (tgt := 65) hx hb dX1_findNext_51 (by decide) (fun c51 => ?_) (fun c51 => ?_)
          · replace h := And.left h c51
            exact L65 x1 x2 x3 h ls (lv_sub hl [1, 2, 3, 4] rfl)
          · replace h := And.right h c51
            refine lv_iload_n hx hb dX1_findNext_54 rfl (lv_at hl 4 rfl) ?_
            refine lv_istore_n (lv' := [(1, .int x3), (4, .int t0), (0, .ref (ah 99)), (2, .int x2), (3, .int x3)]) hx hb dX1_findNext_55 rfl hl (by decide) rfl (fun ls hl => ?_)
            refine lv_aload_n hx hb dX1_findNext_56 rfl (lv_at hl 2 rfl) ?_
            refine va_get (D := D) (ci := 1) (v := .ref (ah 8)) (C := RX1) (T := TX1) (N := 11) hx hb htB ziX1 hown hK hP 0 rfl rfl 8 (by decide) (htB _ zm_20) (fun _ h9 => h9) rfl dX1_findNext_57 ?_
            refine lv_iload_n hx hb dX1_findNext_60 rfl (lv_at hl 4 rfl) ?_
            have hPc : va_P D zCl [((ah 8), .inl (cy, 8, .inl (S 8)))] s.heap := hP.sub [9] rfl
            refine zc_r (va_runSN (As := [.ref (ah 8), .int x3]) (rest := []) ⟨hx, hb, hml, hown, htB⟩ (c_X4_at l D cy (ah 8) 8 (S 8) x3 h) ⟨va_cnB 2 htB (zgN zm_13) rfl rfl rfl (hN _ zm_19) (htB _ zm_4) hd_X4_at.2 ⟨Nat.le_of_ble_eq_true rfl, Nat.le_of_ble_eq_true rfl⟩, htB _ zm_14, trivial⟩ ⟨zR_blind, zR_pre hPc hK hN⟩ rfl rfl hl.1 rfl (lv_room (Nat.le_of_ble_eq_true rfl)) dX1_findNext_61 ⟨Nat.zero_le _, Nat.zero_le _⟩) (fun r61 h => ?_)
            refine lv_istore_n (lv' := [(2, .int r61), (1, .int x3), (4, .int t0), (0, .ref (ah 99)), (3, .int x3)]) hx hb dX1_findNext_64 rfl hl (by decide) rfl (fun ls hl => ?_)
            exact L65 x3 r61 x3 h ls (lv_sub hl [3, 1, 0, 4] rfl)
      have L31 : ∀ (x1 : Int32) (x2 : Int32) (x3 : Int32), wpb_X1_findNext_31 S Q (wpl_X1_findNext_7 S Q k7) x1 x2 x3 → ∀ ls : Array Slot, lv_has ls 5 [(0, .ref (ah 99)), (1, .int x1), (2, .int x2), (3, .int x3)] → W p l e rm_X1_findNext s m ([.ref (ah 99)] : List Value).toArray below meth c s.heap [] 0 0 (MQ below (vp_Si Q) ([.ref (ah 99)] : List Value).toArray s 0 0 (fun _ => False)) (F0 m 31 ls []) := by
        intro x1 x2 x3 h ls hl
        refine lv_iconst (v := (1 : Int32)) hx hb dX1_findNext_31 (by decide) ?_
        refine lv_goto (tgt := 36) hx hb dX1_findNext_32 (by decide) ?_
        exact L36 x1 x2 x3 (1 : Int32) h ls (lv_sub hl [0, 1, 2, 3] rfl)
      intro x1 x2 x3 h ls hl
      refine lv_iload_n hx hb dX1_findNext_7 rfl (lv_at hl 3 rfl) ?_
      refine lv_aload_n hx hb dX1_findNext_8 rfl (lv_at hl 0 rfl) ?_
      refine va_get (D := D) (ci := 1) (v := .int (S 10 0)) (C := RX1) (T := TX1) (N := 11) hx hb htB ziX1 hown hK hP 0 rfl rfl 10 (by decide) (htB _ zm_21) (fun _ h9 => h9) rfl dX1_findNext_9 ?_
      refine lv_icmp_ge (tgt := 71) hx hb dX1_findNext_12 (by decide) (fun c12 => ?_) (fun c12 => ?_)
      · replace h := And.left h c12
        refine lv_iload_n hx hb dX1_findNext_71 rfl (lv_at hl 1 rfl) ?_
        exact W.iret (v := x1) hx hb hr (fun t ht hW => ⟨_, rfl, h, ht⟩) (fun q hq => by cases hq) dX1_findNext_72
      · replace h := And.right h c12
        refine lv_iload_n hx hb dX1_findNext_15 rfl (lv_at hl 1 rfl) ?_
        refine lv_if_lt (tgt := 31) hx hb dX1_findNext_16 (by decide) (fun c16 => ?_) (fun c16 => ?_)
        · replace h := And.left h c16
          exact L31 x1 x2 x3 h ls (lv_sub hl [0, 1, 2, 3] rfl)
        · replace h := And.right h c16
          refine lv_aload_n hx hb dX1_findNext_19 rfl (lv_at hl 0 rfl) ?_
          refine va_get (D := D) (ci := 1) (v := .ref (ah 8)) (C := RX1) (T := TX1) (N := 11) hx hb htB ziX1 hown hK hP 0 rfl rfl 8 (by decide) (htB _ zm_20) (fun _ h9 => h9) rfl dX1_findNext_20 ?_
          refine lv_iload_n hx hb dX1_findNext_23 rfl (lv_at hl 3 rfl) ?_
          have hPc : va_P D zCl [((ah 8), .inl (cy, 8, .inl (S 8)))] s.heap := hP.sub [9] rfl
          refine zc_r (va_runSN (As := [.ref (ah 8), .int x3]) (rest := []) ⟨hx, hb, hml, hown, htB⟩ (c_X4_at l D cy (ah 8) 8 (S 8) x3 h) ⟨va_cnB 2 htB (zgN zm_13) rfl rfl rfl (hN _ zm_19) (htB _ zm_4) hd_X4_at.2 ⟨Nat.le_of_ble_eq_true rfl, Nat.le_of_ble_eq_true rfl⟩, htB _ zm_14, trivial⟩ ⟨zR_blind, zR_pre hPc hK hN⟩ rfl rfl hl.1 rfl (lv_room (Nat.le_of_ble_eq_true rfl)) dX1_findNext_24 ⟨Nat.zero_le _, Nat.zero_le _⟩) (fun r24 h => ?_)
          refine lv_iload_n hx hb dX1_findNext_27 rfl (lv_at hl 2 rfl) ?_
          refine lv_icmp_ge (tgt := 35) hx hb dX1_findNext_28 (by decide) (fun c28 => ?_) (fun c28 => ?_)
          · replace h := And.left h c28
            refine lv_iconst (v := (0 : Int32)) hx hb dX1_findNext_35 (by decide) ?_
            exact L36 x1 x2 x3 (0 : Int32) h ls (lv_sub hl [0, 1, 2, 3] rfl)
          · replace h := And.right h c28
            exact L31 x1 x2 x3 h ls (lv_sub hl [0, 1, 2, 3] rfl)
  refine lv_bipush (v := (-9 : Int32)) hx hb dX1_findNext_0 (by decide) ?_
  refine lv_istore_n (lv' := [(1, .int (-9 : Int32)), (0, .ref (ah 99))]) hx hb dX1_findNext_2 rfl hl (by decide) rfl (fun ls hl => ?_)
  refine lv_iconst (v := (0 : Int32)) hx hb dX1_findNext_3 (by decide) ?_
  refine lv_istore_n (lv' := [(2, .int (0 : Int32)), (1, .int (-9 : Int32)), (0, .ref (ah 99))]) hx hb dX1_findNext_4 rfl hl (by decide) rfl (fun ls hl => ?_)
  refine lv_iconst (v := (0 : Int32)) hx hb dX1_findNext_5 (by decide) ?_
  refine lv_istore_n (lv' := [(3, .int (0 : Int32)), (2, .int (0 : Int32)), (1, .int (-9 : Int32)), (0, .ref (ah 99))]) hx hb dX1_findNext_6 rfl hl (by decide) rfl (fun ls hl => ?_)
  obtain ⟨nn, h⟩ := h
  exact L7 nn (-9 : Int32) (0 : Int32) (0 : Int32) h ls (lv_sub hl [3, 2, 1, 0] rfl)
set_option maxHeartbeats 4000000 in
set_option maxRecDepth 100000 in
theorem c_X1_goneAt (l : Launch) (D : va_G) (cy : ClassId) (ah : Nat → Nat) (S : zT) (i1 : Int32) {Q : Int32 → Prop} (h : wp_X1_goneAt S i1 Q) : Met l yX1_goneAt w_X1_goneAt rm_X1_goneAt (va_Pc [.ref (ah 99), .int i1] (zR D cy (bX1 ah cy S))) (vp_Si Q) 0 0 (fun _ => False) := by
  refine zOf_r (by decide) (Nat.le_of_ble_eq_true rfl) ?_
  intro p e s m below meth c ls hx hb hr hml hown htB hlocks hK hN hP hl
  replace hl : lv_has ls 2 [(0, .ref (ah 99)), (1, .int i1)] := hl
  refine lv_aload_n hx hb dX1_goneAt_0 rfl (lv_at hl 0 rfl) ?_
  refine va_get (D := D) (ci := 1) (v := .ref (ah 2)) (C := RX1) (T := TX1) (N := 11) hx hb htB ziX1 hown hK hP 0 rfl rfl 2 (by decide) (htB _ zm_22) (fun _ h9 => h9) rfl dX1_goneAt_1 ?_
  refine lv_iload_n hx hb dX1_goneAt_4 rfl (lv_at hl 1 rfl) ?_
  have hPc : va_P D zCl [((ah 2), .inl (cy, 8, .inl (S 2)))] s.heap := hP.sub [3] rfl
  refine zc_r (va_runSN (As := [.ref (ah 2), .int i1]) (rest := []) ⟨hx, hb, hml, hown, htB⟩ (c_X4_at l D cy (ah 2) 8 (S 2) i1 h) ⟨va_cnB 2 htB (zgN zm_13) rfl rfl rfl (hN _ zm_19) (htB _ zm_4) hd_X4_at.2 ⟨Nat.le_of_ble_eq_true rfl, Nat.le_of_ble_eq_true rfl⟩, htB _ zm_14, trivial⟩ ⟨zR_blind, zR_pre hPc hK hN⟩ rfl rfl hl.1 rfl (lv_room (Nat.le_of_ble_eq_true rfl)) dX1_goneAt_5 ⟨Nat.zero_le _, Nat.zero_le _⟩) (fun r5 h => ?_)
  refine lv_aload_n hx hb dX1_goneAt_8 rfl (lv_at hl 0 rfl) ?_
  refine va_get (D := D) (ci := 1) (v := .ref (ah 4)) (C := RX1) (T := TX1) (N := 11) hx hb htB ziX1 hown hK hP 0 rfl rfl 4 (by decide) (htB _ zm_23) (fun _ h9 => h9) rfl dX1_goneAt_9 ?_
  refine lv_iload_n hx hb dX1_goneAt_12 rfl (lv_at hl 1 rfl) ?_
  have hPc : va_P D zCl [((ah 4), .inl (cy, 8, .inl (S 4)))] s.heap := hP.sub [5] rfl
  refine zc_r (va_runSN (As := [.ref (ah 4), .int i1]) (rest := [.int r5]) ⟨hx, hb, hml, hown, htB⟩ (c_X4_at l D cy (ah 4) 8 (S 4) i1 h) ⟨va_cnB 2 htB (zgN zm_13) rfl rfl rfl (hN _ zm_19) (htB _ zm_4) hd_X4_at.2 ⟨Nat.le_of_ble_eq_true rfl, Nat.le_of_ble_eq_true rfl⟩, htB _ zm_14, trivial⟩ ⟨zR_blind, zR_pre hPc hK hN⟩ rfl rfl hl.1 rfl (lv_room (Nat.le_of_ble_eq_true rfl)) dX1_goneAt_13 ⟨Nat.zero_le _, Nat.zero_le _⟩) (fun r13 h => ?_)
  refine lv_iadd hx hb dX1_goneAt_16 ?_
  exact W.iret (v := (r5 + r13)) hx hb hr (fun t ht hW => ⟨_, rfl, h, ht⟩) (fun q hq => by cases hq) dX1_goneAt_17
set_option maxHeartbeats 4000000 in
set_option maxRecDepth 100000 in
theorem c_X3_of (l : Launch) (D : va_G) (cy : ClassId) (ah : Nat → Nat) (S : zT) (i1 : Int32) (i2 : Int32) {Q : Int32 → Prop} (h : wp_X3_of S i1 i2 Q) : Met l yX3_of w_X3_of rm_X3_of (va_Pc [.ref (ah 99), .int i1, .int i2] (zR D cy (bX3 ah cy S))) (vp_Si Q) 0 0 (fun _ => False) := by
  refine zOf_r (by decide) (Nat.le_of_ble_eq_true rfl) ?_
  intro p e s m below meth c ls hx hb hr hml hown htB hlocks hK hN hP hl
  replace hl : lv_has ls 4 [(0, .ref (ah 99)), (1, .int i1), (2, .int i2)] := hl
  refine lv_iload_n hx hb dX3_of_0 rfl (lv_at hl 1 rfl) ?_
  refine lv_bipush (v := (7 : Int32)) hx hb dX3_of_1 (by decide) ?_
  refine lv_imul hx hb dX3_of_3 ?_
  refine lv_iload_n hx hb dX3_of_4 rfl (lv_at hl 2 rfl) ?_
  refine lv_iadd hx hb dX3_of_5 ?_
  refine lv_topi (fun y6 ey6 => ?_)
  replace h := h y6 ey6
  refine lv_istore_n (lv' := [(3, .int y6), (0, .ref (ah 99)), (1, .int i1), (2, .int i2)]) hx hb dX3_of_6 rfl hl (by decide) rfl (fun ls hl => ?_)
  refine lv_iload_n hx hb dX3_of_7 rfl (lv_at hl 0 rfl) ?_
  refine lv_if_lt (tgt := 29) hx hb dX3_of_8 (by decide) (fun c8 => ?_) (fun c8 => ?_)
  · replace h := And.left h c8
    refine lv_iconst (v := (0 : Int32)) hx hb dX3_of_29 (by decide) ?_
    exact W.iret (v := (0 : Int32)) hx hb hr (fun t ht hW => ⟨_, rfl, h, ht⟩) (fun q hq => by cases hq) dX3_of_30
  · replace h := And.right h c8
    refine lv_iload_n hx hb dX3_of_11 rfl (lv_at hl 0 rfl) ?_
    refine lv_aload_n hx hb dX3_of_12 rfl (lv_at hl 1 rfl) ?_
    refine va_get (D := D) (ci := 3) (v := .ref (ah 1)) (C := RX3) (T := TX3) (N := 3) hx hb htB ziX3 hown hK hP 0 rfl rfl 1 (by decide) (htB _ zm_24) (fun _ h9 => h9) rfl dX3_of_13 ?_
    refine va_alen (D := D) (v := (56 : Int32)) hx hb hK hP 2 0 rfl rfl rfl dX3_of_16 ?_
    refine lv_icmp_ge (tgt := 29) hx hb dX3_of_17 (by decide) (fun c17 => ?_) (fun c17 => ?_)
    · replace h := And.left h c17
      refine lv_iconst (v := (0 : Int32)) hx hb dX3_of_29 (by decide) ?_
      exact W.iret (v := (0 : Int32)) hx hb hr (fun t ht hW => ⟨_, rfl, h, ht⟩) (fun q hq => by cases hq) dX3_of_30
    · replace h := And.right h c17
      refine lv_aload_n hx hb dX3_of_20 rfl (lv_at hl 1 rfl) ?_
      refine va_get (D := D) (ci := 3) (v := .ref (ah 1)) (C := RX3) (T := TX3) (N := 3) hx hb htB ziX3 hown hK hP 0 rfl rfl 1 (by decide) (htB _ zm_24) (fun _ h9 => h9) rfl dX3_of_21 ?_
      refine lv_iload_n hx hb dX3_of_24 rfl (lv_at hl 0 rfl) ?_
      refine va_iald (D := D) hx hb hK hP 2 0 rfl rfl (And.left h) dX3_of_25 ?_
      replace h := And.right h
      refine lv_goto (tgt := 30) hx hb dX3_of_26 (by decide) ?_
      exact W.iret (v := (S 1 y6.toNatClampNeg)) hx hb hr (fun t ht hW => ⟨_, rfl, h, ht⟩) (fun q hq => by cases hq) dX3_of_30
set_option maxHeartbeats 4000000 in
set_option maxRecDepth 100000 in
theorem c_X3_door (l : Launch) (D : va_G) (cy : ClassId) (ah : Nat → Nat) (S : zT) (i1 : Int32) {Q : Int32 → Prop} (h : wp_X3_door S i1 Q) : Met l yX3_door w_X3_door rm_X3_door (va_Pc [.ref (ah 99), .int i1] (zR D cy (bX3 ah cy S))) (vp_Si Q) 0 0 (fun _ => False) := by
  refine zOf_r (by decide) (Nat.le_of_ble_eq_true rfl) ?_
  intro p e s m below meth c ls hx hb hr hml hown htB hlocks hK hN hP hl
  replace hl : lv_has ls 2 [(0, .ref (ah 99)), (1, .int i1)] := hl
  refine lv_iload_n hx hb dX3_door_0 rfl (lv_at hl 1 rfl) ?_
  refine lv_if_lt (tgt := 22) hx hb dX3_door_1 (by decide) (fun c1 => ?_) (fun c1 => ?_)
  · replace h := And.left h c1
    refine lv_iconst (v := (0 : Int32)) hx hb dX3_door_22 (by decide) ?_
    exact W.iret (v := (0 : Int32)) hx hb hr (fun t ht hW => ⟨_, rfl, h, ht⟩) (fun q hq => by cases hq) dX3_door_23
  · replace h := And.right h c1
    refine lv_iload_n hx hb dX3_door_4 rfl (lv_at hl 1 rfl) ?_
    refine lv_aload_n hx hb dX3_door_5 rfl (lv_at hl 0 rfl) ?_
    refine va_get (D := D) (ci := 3) (v := .ref (ah 0)) (C := RX3) (T := TX3) (N := 3) hx hb htB ziX3 hown hK hP 0 rfl rfl 0 (by decide) (htB _ zm_25) (fun _ h9 => h9) rfl dX3_door_6 ?_
    refine va_alen (D := D) (v := (5 : Int32)) hx hb hK hP 1 0 rfl rfl rfl dX3_door_9 ?_
    refine lv_icmp_ge (tgt := 22) hx hb dX3_door_10 (by decide) (fun c10 => ?_) (fun c10 => ?_)
    · replace h := And.left h c10
      refine lv_iconst (v := (0 : Int32)) hx hb dX3_door_22 (by decide) ?_
      exact W.iret (v := (0 : Int32)) hx hb hr (fun t ht hW => ⟨_, rfl, h, ht⟩) (fun q hq => by cases hq) dX3_door_23
    · replace h := And.right h c10
      refine lv_aload_n hx hb dX3_door_13 rfl (lv_at hl 0 rfl) ?_
      refine va_get (D := D) (ci := 3) (v := .ref (ah 0)) (C := RX3) (T := TX3) (N := 3) hx hb htB ziX3 hown hK hP 0 rfl rfl 0 (by decide) (htB _ zm_25) (fun _ h9 => h9) rfl dX3_door_14 ?_
      refine lv_iload_n hx hb dX3_door_17 rfl (lv_at hl 1 rfl) ?_
      refine va_iald (D := D) hx hb hK hP 1 0 rfl rfl (And.left h) dX3_door_18 ?_
      replace h := And.right h
      refine lv_goto (tgt := 23) hx hb dX3_door_19 (by decide) ?_
      exact W.iret (v := (S 0 i1.toNatClampNeg)) hx hb hr (fun t ht hW => ⟨_, rfl, h, ht⟩) (fun q hq => by cases hq) dX3_door_23
set_option maxHeartbeats 4000000 in
set_option maxRecDepth 100000 in
theorem c_X3_secondsToOpen (l : Launch) (D : va_G) (cy : ClassId) (ah : Nat → Nat) (S : zT) (i1 : Int32) {Q : Int32 → Prop} (h : wp_X3_secondsToOpen S i1 Q) : Met l yX3_secondsToOpen w_X3_secondsToOpen rm_X3_secondsToOpen (va_Pc [.ref (ah 99), .int i1] (zR D cy (bX3 ah cy S))) (vp_Si Q) 0 0 (fun _ => False) := by
  refine zOf_r (by decide) (Nat.le_of_ble_eq_true rfl) ?_
  intro p e s m below meth c ls hx hb hr hml hown htB hlocks hK hN hP hl
  replace hl : lv_has ls 3 [(0, .ref (ah 99)), (1, .int i1)] := hl
  have L15 : ∀ (t0 : Int32), wpb_X3_secondsToOpen_15 S i1 Q t0 → ∀ ls : Array Slot, lv_has ls 3 [(0, .ref (ah 99)), (1, .int i1)] → W p l e rm_X3_secondsToOpen s m ([.ref (ah 99), .int i1] : List Value).toArray below meth c s.heap [] 0 0 (MQ below (vp_Si Q) ([.ref (ah 99), .int i1] : List Value).toArray s 0 0 (fun _ => False)) (F0 m 15 ls [.int t0]) := by
    intro t0 h ls hl
    refine lv_istore_n (lv' := [(2, .int t0), (0, .ref (ah 99)), (1, .int i1)]) hx hb dX3_secondsToOpen_15 rfl hl (by decide) rfl (fun ls hl => ?_)
    refine lv_iconst (v := (0 : Int32)) hx hb dX3_secondsToOpen_16 (by decide) ?_
    refine lv_aload_n hx hb dX3_secondsToOpen_17 rfl (lv_at hl 1 rfl) ?_
    refine lv_iconst (v := (1 : Int32)) hx hb dX3_secondsToOpen_18 (by decide) ?_
    refine zc_r (va_runV (As := [.int (1 : Int32)]) (rest := [.int (0 : Int32)]) ⟨hx, hb, hml, hown, htB⟩ (c_X3_door l D cy ah S (1 : Int32) h) (cwV 1 htB (zgV zm_26 zm_29 zm_30 zm_28 zm_27) rfl rfl rfl hd_X3_door ⟨Nat.le_of_ble_eq_true rfl, Nat.le_of_ble_eq_true rfl⟩) ⟨zR_blind, va_recv hK hP (ci := 3) (q0 := 0) rfl rfl, zR_pre hP hK hN⟩ rfl rfl hl.1 rfl (lv_room (Nat.le_of_ble_eq_true rfl)) dX3_secondsToOpen_19 ⟨Nat.zero_le _, Nat.zero_le _⟩) (fun r19 h => ?_)
    refine lv_aload_n hx hb dX3_secondsToOpen_22 rfl (lv_at hl 1 rfl) ?_
    refine lv_iload_n hx hb dX3_secondsToOpen_23 rfl (lv_at hl 2 rfl) ?_
    refine lv_iconst (v := (4 : Int32)) hx hb dX3_secondsToOpen_24 (by decide) ?_
    refine zc_r (va_runV (As := [.int i1, .int (4 : Int32)]) (rest := [.int r19, .int (0 : Int32)]) ⟨hx, hb, hml, hown, htB⟩ (c_X3_of l D cy ah S i1 (4 : Int32) h) (cwV 2 htB (zgV zm_31 zm_33 zm_34 zm_28 zm_32) rfl rfl rfl hd_X3_of ⟨Nat.le_of_ble_eq_true rfl, Nat.le_of_ble_eq_true rfl⟩) ⟨zR_blind, va_recv hK hP (ci := 3) (q0 := 0) rfl rfl, zR_pre hP hK hN⟩ rfl rfl hl.1 rfl (lv_room (Nat.le_of_ble_eq_true rfl)) dX3_secondsToOpen_25 ⟨Nat.zero_le _, Nat.zero_le _⟩) (fun r25 h => ?_)
    refine lv_iadd hx hb dX3_secondsToOpen_28 ?_
    refine lv_iload_n hx hb dX3_secondsToOpen_29 rfl (lv_at hl 0 rfl) ?_
    refine lv_isub hx hb dX3_secondsToOpen_30 ?_
    refine va_mmax hx hb (hml.trans hl.1.symm) hown (htB _ zm_35) (htB _ zm_36) (htB _ zm_37) (htB _ zm_38) (Nat.le_of_ble_eq_true rfl) (Nat.le_of_ble_eq_true rfl) (Nat.zero_le _) (Nat.zero_le _) dX3_secondsToOpen_31 ?_
    exact W.iret (v := (if (0 : Int32) < ((r19 + r25) - t0) then ((r19 + r25) - t0) else (0 : Int32))) hx hb hr (fun t ht hW => ⟨_, rfl, h, ht⟩) (fun q hq => by cases hq) dX3_secondsToOpen_34
  refine lv_aload_n hx hb dX3_secondsToOpen_0 rfl (lv_at hl 0 rfl) ?_
  refine lv_iload_n hx hb dX3_secondsToOpen_1 rfl (lv_at hl 1 rfl) ?_
  refine lv_iconst (v := (0 : Int32)) hx hb dX3_secondsToOpen_2 (by decide) ?_
  refine zc_r (va_runV (As := [.int i1, .int (0 : Int32)]) (rest := []) ⟨hx, hb, hml, hown, htB⟩ (c_X3_of l D cy ah S i1 (0 : Int32) h) (cwV 2 htB (zgV zm_31 zm_33 zm_34 zm_28 zm_32) rfl rfl rfl hd_X3_of ⟨Nat.le_of_ble_eq_true rfl, Nat.le_of_ble_eq_true rfl⟩) ⟨zR_blind, va_recv hK hP (ci := 3) (q0 := 0) rfl rfl, zR_pre hP hK hN⟩ rfl rfl hl.1 rfl (lv_room (Nat.le_of_ble_eq_true rfl)) dX3_secondsToOpen_3 ⟨Nat.zero_le _, Nat.zero_le _⟩) (fun r3 h => ?_)
  refine lv_iconst (v := (4 : Int32)) hx hb dX3_secondsToOpen_6 (by decide) ?_
  refine lv_icmp_ne (tgt := 14) hx hb dX3_secondsToOpen_7 (by decide) (fun c7 => ?_) (fun c7 => ?_)
  · replace h := And.right h c7
    refine lv_iconst (v := (0 : Int32)) hx hb dX3_secondsToOpen_14 (by decide) ?_
    exact L15 (0 : Int32) h ls (lv_sub hl [0, 1] rfl)
  · replace h := And.left h c7
    refine lv_iconst (v := (1 : Int32)) hx hb dX3_secondsToOpen_10 (by decide) ?_
    refine lv_goto (tgt := 15) hx hb dX3_secondsToOpen_11 (by decide) ?_
    exact L15 (1 : Int32) h ls (lv_sub hl [0, 1] rfl)
set_option maxHeartbeats 4000000 in
set_option maxRecDepth 100000 in
theorem c_X3_yardsHeldFor (l : Launch) (D : va_G) (cy : ClassId) (ah : Nat → Nat) (S : zT) (i1 : Int32) {Q : Int32 → Prop} (h : wp_X3_yardsHeldFor S i1 Q) : Met l yX3_yardsHeldFor w_X3_yardsHeldFor rm_X3_yardsHeldFor (va_Pc [.ref (ah 99), .int i1] (zR D cy (bX3 ah cy S))) (vp_Si Q) 0 0 (fun _ => False) := by
  refine zOf_r (by decide) (Nat.le_of_ble_eq_true rfl) ?_
  intro p e s m below meth c ls hx hb hr hml hown htB hlocks hK hN hP hl
  replace hl : lv_has ls 3 [(0, .ref (ah 99)), (1, .int i1)] := hl
  refine lv_aload_n hx hb dX3_yardsHeldFor_0 rfl (lv_at hl 0 rfl) ?_
  refine lv_iload_n hx hb dX3_yardsHeldFor_1 rfl (lv_at hl 1 rfl) ?_
  refine lv_iconst (v := (3 : Int32)) hx hb dX3_yardsHeldFor_2 (by decide) ?_
  refine zc_r (va_runV (As := [.int i1, .int (3 : Int32)]) (rest := []) ⟨hx, hb, hml, hown, htB⟩ (c_X3_of l D cy ah S i1 (3 : Int32) h) (cwV 2 htB (zgV zm_31 zm_33 zm_34 zm_28 zm_32) rfl rfl rfl hd_X3_of ⟨Nat.le_of_ble_eq_true rfl, Nat.le_of_ble_eq_true rfl⟩) ⟨zR_blind, va_recv hK hP (ci := 3) (q0 := 0) rfl rfl, zR_pre hP hK hN⟩ rfl rfl hl.1 rfl (lv_room (Nat.le_of_ble_eq_true rfl)) dX3_yardsHeldFor_3 ⟨Nat.zero_le _, Nat.zero_le _⟩) (fun r3 h => ?_)
  refine lv_istore_n (lv' := [(2, .int r3), (0, .ref (ah 99)), (1, .int i1)]) hx hb dX3_yardsHeldFor_6 rfl hl (by decide) rfl (fun ls hl => ?_)
  refine lv_aload_n hx hb dX3_yardsHeldFor_7 rfl (lv_at hl 1 rfl) ?_
  refine lv_iload_n hx hb dX3_yardsHeldFor_8 rfl (lv_at hl 2 rfl) ?_
  refine lv_iconst (v := (0 : Int32)) hx hb dX3_yardsHeldFor_9 (by decide) ?_
  refine zc_r (va_runV (As := [.int i1, .int (0 : Int32)]) (rest := []) ⟨hx, hb, hml, hown, htB⟩ (c_X3_of l D cy ah S i1 (0 : Int32) h) (cwV 2 htB (zgV zm_31 zm_33 zm_34 zm_28 zm_32) rfl rfl rfl hd_X3_of ⟨Nat.le_of_ble_eq_true rfl, Nat.le_of_ble_eq_true rfl⟩) ⟨zR_blind, va_recv hK hP (ci := 3) (q0 := 0) rfl rfl, zR_pre hP hK hN⟩ rfl rfl hl.1 rfl (lv_room (Nat.le_of_ble_eq_true rfl)) dX3_yardsHeldFor_10 ⟨Nat.zero_le _, Nat.zero_le _⟩) (fun r10 h => ?_)
  by_cases c13_0 : r10 = (1 : Int32)
  · replace h := And.left h c13_0
    refine lv_tableIn (off := 35) (tgt := 48) hx hb dX3_yardsHeldFor_13 (by rw [c13_0]; decide) (by rw [c13_0]; decide) (by rw [c13_0]; rfl) (by decide) ?_
    refine lv_iconst (v := (2 : Int32)) hx hb dX3_yardsHeldFor_48 (by decide) ?_
    refine lv_iload_n hx hb dX3_yardsHeldFor_49 rfl (lv_at hl 0 rfl) ?_
    refine lv_imul hx hb dX3_yardsHeldFor_50 ?_
    exact W.iret (v := ((2 : Int32) * r3)) hx hb hr (fun t ht hW => ⟨_, rfl, h, ht⟩) (fun q hq => by cases hq) dX3_yardsHeldFor_51
  · replace h := And.right h c13_0
    by_cases c13_1 : r10 = (2 : Int32)
    · replace h := And.left h c13_1
      refine lv_tableIn (off := 39) (tgt := 52) hx hb dX3_yardsHeldFor_13 (by rw [c13_1]; decide) (by rw [c13_1]; decide) (by rw [c13_1]; rfl) (by decide) ?_
      refine lv_iconst (v := (2 : Int32)) hx hb dX3_yardsHeldFor_52 (by decide) ?_
      refine lv_iload_n hx hb dX3_yardsHeldFor_53 rfl (lv_at hl 0 rfl) ?_
      refine lv_imul hx hb dX3_yardsHeldFor_54 ?_
      refine lv_iconst (v := (1 : Int32)) hx hb dX3_yardsHeldFor_55 (by decide) ?_
      refine lv_iadd hx hb dX3_yardsHeldFor_56 ?_
      exact W.iret (v := (((2 : Int32) * r3) + (1 : Int32))) hx hb hr (fun t ht hW => ⟨_, rfl, h, ht⟩) (fun q hq => by cases hq) dX3_yardsHeldFor_57
    · replace h := And.right h c13_1
      by_cases c13_2 : r10 = (3 : Int32)
      · replace h := And.left h c13_2
        refine lv_tableIn (off := 45) (tgt := 58) hx hb dX3_yardsHeldFor_13 (by rw [c13_2]; decide) (by rw [c13_2]; decide) (by rw [c13_2]; rfl) (by decide) ?_
        refine lv_iconst (v := (1 : Int32)) hx hb dX3_yardsHeldFor_58 (by decide) ?_
        refine lv_iload_n hx hb dX3_yardsHeldFor_59 rfl (lv_at hl 0 rfl) ?_
        refine lv_aload_n hx hb dX3_yardsHeldFor_60 rfl (lv_at hl 1 rfl) ?_
        refine lv_iload_n hx hb dX3_yardsHeldFor_61 rfl (lv_at hl 2 rfl) ?_
        refine lv_iconst (v := (4 : Int32)) hx hb dX3_yardsHeldFor_62 (by decide) ?_
        refine zc_r (va_runV (As := [.int i1, .int (4 : Int32)]) (rest := [.int r3, .int (1 : Int32)]) ⟨hx, hb, hml, hown, htB⟩ (c_X3_of l D cy ah S i1 (4 : Int32) h) (cwV 2 htB (zgV zm_31 zm_33 zm_34 zm_28 zm_32) rfl rfl rfl hd_X3_of ⟨Nat.le_of_ble_eq_true rfl, Nat.le_of_ble_eq_true rfl⟩) ⟨zR_blind, va_recv hK hP (ci := 3) (q0 := 0) rfl rfl, zR_pre hP hK hN⟩ rfl rfl hl.1 rfl (lv_room (Nat.le_of_ble_eq_true rfl)) dX3_yardsHeldFor_63 ⟨Nat.zero_le _, Nat.zero_le _⟩) (fun r63 h => ?_)
        refine lv_isub hx hb dX3_yardsHeldFor_66 ?_
        refine va_mmax hx hb (hml.trans hl.1.symm) hown (htB _ zm_35) (htB _ zm_36) (htB _ zm_37) (htB _ zm_38) (Nat.le_of_ble_eq_true rfl) (Nat.le_of_ble_eq_true rfl) (Nat.zero_le _) (Nat.zero_le _) dX3_yardsHeldFor_67 ?_
        exact W.iret (v := (if (1 : Int32) < (r3 - r63) then (r3 - r63) else (1 : Int32))) hx hb hr (fun t ht hW => ⟨_, rfl, h, ht⟩) (fun q hq => by cases hq) dX3_yardsHeldFor_70
      · replace h := And.right h c13_2
        by_cases c13_3 : r10 = (4 : Int32)
        · replace h := And.left h c13_3
          refine lv_tableIn (off := 58) (tgt := 71) hx hb dX3_yardsHeldFor_13 (by rw [c13_3]; decide) (by rw [c13_3]; decide) (by rw [c13_3]; rfl) (by decide) ?_
          refine lv_iload_n hx hb dX3_yardsHeldFor_71 rfl (lv_at hl 0 rfl) ?_
          exact W.iret (v := r3) hx hb hr (fun t ht hW => ⟨_, rfl, h, ht⟩) (fun q hq => by cases hq) dX3_yardsHeldFor_72
        · replace h := And.right h c13_3
          by_cases c13_4 : r10 = (5 : Int32)
          · replace h := And.left h c13_4
            refine lv_tableIn (off := 35) (tgt := 48) hx hb dX3_yardsHeldFor_13 (by rw [c13_4]; decide) (by rw [c13_4]; decide) (by rw [c13_4]; rfl) (by decide) ?_
            refine lv_iconst (v := (2 : Int32)) hx hb dX3_yardsHeldFor_48 (by decide) ?_
            refine lv_iload_n hx hb dX3_yardsHeldFor_49 rfl (lv_at hl 0 rfl) ?_
            refine lv_imul hx hb dX3_yardsHeldFor_50 ?_
            exact W.iret (v := ((2 : Int32) * r3)) hx hb hr (fun t ht hW => ⟨_, rfl, h, ht⟩) (fun q hq => by cases hq) dX3_yardsHeldFor_51
          · replace h := And.right h c13_4
            have z0 := lv_neT c13_0 (a := 1) rfl
            have z1 := lv_neT c13_1 (a := 2) rfl
            have z2 := lv_neT c13_2 (a := 3) rfl
            have z3 := lv_neT c13_3 (a := 4) rfl
            have z4 := lv_neT c13_4 (a := 5) rfl
            refine lv_tableOut (tgt := 71) hx hb dX3_yardsHeldFor_13 (by omega) (by decide) ?_
            refine lv_iload_n hx hb dX3_yardsHeldFor_71 rfl (lv_at hl 0 rfl) ?_
            exact W.iret (v := r3) hx hb hr (fun t ht hW => ⟨_, rfl, h, ht⟩) (fun q hq => by cases hq) dX3_yardsHeldFor_72
set_option maxHeartbeats 4000000 in
set_option maxRecDepth 100000 in
theorem c_X1_comeThrough (l : Launch) (D : va_G) (cy : ClassId) (ah : Nat → Nat) (ao1 : Nat → Nat) (sz : Nat) (So1 : zT) (i2 : Int32) (i3 : Int32) (S : zT) {Q : zT → Prop} (h : wp_X1_comeThrough So1 i2 i3 S Q) : Met l yX1_comeThrough w_X1_comeThrough rm_X1_comeThrough (va_Pc [.ref (ah 99), .ref (ao1 99), .int i2, .int i3] (zM D cy ((bX1 ah cy S) ++ ((bX3 ao1 cy So1))) sz)) (va_Qv (S := zT) (fun (u : zT) => Q u) (fun u t => va_P D zCl ((fun (u : zT) => ((bX1 ah cy u) ++ ((bX3 ao1 cy So1)))) u) t.heap) (va_A ((bX1 ah cy S) ++ ((bX3 ao1 cy So1))) sz)) 0 0 (va_A ((bX1 ah cy S) ++ ((bX3 ao1 cy So1))) sz) := by
  refine zOf_v (by decide) (Nat.le_of_ble_eq_true rfl) ?_
  intro p e s m below meth c ls A H locs hx hb hr hml hown htB hlocks hK hN hP hD hS hA hl
  replace hl : lv_has ls 10 [(0, .ref (ah 99)), (1, .ref (ao1 99)), (2, .int i2), (3, .int i3)] := hl
  have L202 : ∀ (t1 : Int32) (t2 : Int32) (S : zT), wpb_X1_comeThrough_202 So1 i2 i3 Q t1 t2 S → ∀ (H : Heap) (locs : List Loc), va_P D zCl ((bX1 ah cy S) ++ ((bX3 ao1 cy So1))) H → va_D A ((bX1 ah cy S) ++ ((bX3 ao1 cy So1))) → va_S A s.heap H locs → ∀ ls : Array Slot, lv_has ls 10 [(0, .ref (ah 99))] → W p l e rm_X1_comeThrough s m ([.ref (ah 99), .ref (ao1 99), .int i2, .int i3] : List Value).toArray below meth c H locs 0 0 (MQ below (va_Qv (S := zT) (fun (u : zT) => Q u) (fun u t => va_P D zCl ((fun (u : zT) => ((bX1 ah cy u) ++ ((bX3 ao1 cy So1)))) u) t.heap) A) ([.ref (ah 99), .ref (ao1 99), .int i2, .int i3] : List Value).toArray s 0 0 A) (F0 m 202 ls [.int t2, .int t1, .ref (ah 6)]) := by
    intro t1 t2 S h H locs hP hD hS ls hl
    have hPc : va_P D zCl [((ah 6), .inl (cy, 8, .inl (S 6)))] H := hP.sub [7] rfl
    have hDc : va_D A [((ah 6), .inl (cy, 8, .inl (S 6)))] := hD.sub [7] (by decide) rfl
    refine zc_v (ws' := fun u => ((bX1 ah cy (va_up S 6 u)) ++ ((bX3 ao1 cy So1)))) (va_runSN (As := [.ref (ah 6), .int t1, .int t2]) (rest := []) ⟨hx, hb, hml, hown, htB⟩ (c_X4_put l D cy (ah 6) H.size 8 t1 t2 (S 6) h) ⟨va_cnB 3 htB (zgN zm_3) rfl rfl rfl (hN _ zm_39) (htB _ zm_4) hd_X4_put.2 ⟨Nat.le_of_ble_eq_true rfl, Nat.le_of_ble_eq_true rfl⟩, htB _ zm_5, trivial⟩ ⟨zM_blind, zM_pre hPc hK hN hDc⟩ rfl rfl hl.1 rfl (lv_room (Nat.le_of_ble_eq_true rfl)) dX1_comeThrough_202 ⟨Nat.zero_le _, Nat.zero_le _⟩) hS hA hP hD [7] [0, 1, 2, 3, 4, 5, 6, 8, 9, 10, 11, 12, 13] [0, 1, 2, 3, 4, 5, 6, 13, 7, 8, 9, 10, 11, 12] (by decide) rfl (by decide) (by decide) rfl (fun u => rfl) (fun u => rfl) (fun u => rfl) (fun u H locs h hP hD hS => ?_)
    obtain ⟨gf0_202, eu⟩ : ∃ z, z = u := ⟨_, rfl⟩
    subst eu
    replace hP : va_P D zCl ((bX1 ah cy (va_up S 6 gf0_202)) ++ ((bX3 ao1 cy So1))) H := hP
    replace hD : va_D A ((bX1 ah cy (va_up S 6 gf0_202)) ++ ((bX3 ao1 cy So1))) := hD
    obtain ⟨S_202, eS_202⟩ : ∃ z : zT, z = (va_up S 6 gf0_202) := ⟨_, rfl⟩
    replace h := h S_202 eS_202
    replace hP : va_P D zCl ((bX1 ah cy S_202) ++ ((bX3 ao1 cy So1))) H := by rw [eS_202]; exact hP
    replace hD : va_D A ((bX1 ah cy S_202) ++ ((bX3 ao1 cy So1))) := by rw [eS_202]; exact hD
    exact W.vret hx hb hr (fun t ht hW => ⟨⟨S_202, rfl, h, zP_h ht hP⟩, hS.F ht⟩) hS.2.2 dX1_comeThrough_205
  have L177 : ∀ (x9 : Int32) (t1 : Int32) (t2 : Int32) (S : zT), wpb_X1_comeThrough_177 So1 i2 i3 Q x9 t1 t2 S → ∀ (H : Heap) (locs : List Loc), va_P D zCl ((bX1 ah cy S) ++ ((bX3 ao1 cy So1))) H → va_D A ((bX1 ah cy S) ++ ((bX3 ao1 cy So1))) → va_S A s.heap H locs → ∀ ls : Array Slot, lv_has ls 10 [(0, .ref (ah 99)), (2, .int i2), (3, .int i3), (9, .int x9)] → W p l e rm_X1_comeThrough s m ([.ref (ah 99), .ref (ao1 99), .int i2, .int i3] : List Value).toArray below meth c H locs 0 0 (MQ below (va_Qv (S := zT) (fun (u : zT) => Q u) (fun u t => va_P D zCl ((fun (u : zT) => ((bX1 ah cy u) ++ ((bX3 ao1 cy So1)))) u) t.heap) A) ([.ref (ah 99), .ref (ao1 99), .int i2, .int i3] : List Value).toArray s 0 0 A) (F0 m 177 ls [.int t2, .int t1, .ref (ah 5)]) := by
    intro x9 t1 t2 S h H locs hP hD hS ls hl
    have hPc : va_P D zCl [((ah 5), .inl (cy, 8, .inl (S 5)))] H := hP.sub [6] rfl
    have hDc : va_D A [((ah 5), .inl (cy, 8, .inl (S 5)))] := hD.sub [6] (by decide) rfl
    refine zc_v (ws' := fun u => ((bX1 ah cy (va_up S 5 u)) ++ ((bX3 ao1 cy So1)))) (va_runSN (As := [.ref (ah 5), .int t1, .int t2]) (rest := []) ⟨hx, hb, hml, hown, htB⟩ (c_X4_put l D cy (ah 5) H.size 8 t1 t2 (S 5) h) ⟨va_cnB 3 htB (zgN zm_3) rfl rfl rfl (hN _ zm_39) (htB _ zm_4) hd_X4_put.2 ⟨Nat.le_of_ble_eq_true rfl, Nat.le_of_ble_eq_true rfl⟩, htB _ zm_5, trivial⟩ ⟨zM_blind, zM_pre hPc hK hN hDc⟩ rfl rfl hl.1 rfl (lv_room (Nat.le_of_ble_eq_true rfl)) dX1_comeThrough_177 ⟨Nat.zero_le _, Nat.zero_le _⟩) hS hA hP hD [6] [0, 1, 2, 3, 4, 5, 7, 8, 9, 10, 11, 12, 13] [0, 1, 2, 3, 4, 5, 13, 6, 7, 8, 9, 10, 11, 12] (by decide) rfl (by decide) (by decide) rfl (fun u => rfl) (fun u => rfl) (fun u => rfl) (fun u H locs h hP hD hS => ?_)
    obtain ⟨gf0_177, eu⟩ : ∃ z, z = u := ⟨_, rfl⟩
    subst eu
    replace hP : va_P D zCl ((bX1 ah cy (va_up S 5 gf0_177)) ++ ((bX3 ao1 cy So1))) H := hP
    replace hD : va_D A ((bX1 ah cy (va_up S 5 gf0_177)) ++ ((bX3 ao1 cy So1))) := hD
    obtain ⟨S_177, eS_177⟩ : ∃ z : zT, z = (va_up S 5 gf0_177) := ⟨_, rfl⟩
    replace h := h S_177 eS_177
    replace hP : va_P D zCl ((bX1 ah cy S_177) ++ ((bX3 ao1 cy So1))) H := by rw [eS_177]; exact hP
    replace hD : va_D A ((bX1 ah cy S_177) ++ ((bX3 ao1 cy So1))) := by rw [eS_177]; exact hD
    refine lv_aload_n hx hb dX1_comeThrough_180 rfl (lv_at hl 0 rfl) ?_
    refine va_get (D := D) (ci := 1) (v := .ref (ah 6)) (C := RX1) (T := TX1) (N := 11) hx hb htB ziX1 hown hK hP 0 rfl rfl 6 (by decide) (htB _ zm_40) (fun _ h9 => h9) rfl dX1_comeThrough_181 ?_
    refine lv_iload_n hx hb dX1_comeThrough_184 rfl (lv_at hl 2 rfl) ?_
    refine lv_iload hx hb dX1_comeThrough_185 (lv_at hl 3 rfl) ?_
    refine lv_if_eq (tgt := 201) hx hb dX1_comeThrough_187 (by decide) (fun c187 => ?_) (fun c187 => ?_)
    · replace h := And.left h c187
      refine lv_iconst (v := (0 : Int32)) hx hb dX1_comeThrough_201 (by decide) ?_
      exact L202 i3 (0 : Int32) S_177 h H locs hP hD hS ls (lv_sub hl [0] rfl)
    · replace h := And.right h c187
      refine lv_aload_n hx hb dX1_comeThrough_190 rfl (lv_at hl 0 rfl) ?_
      refine va_get (D := D) (ci := 1) (v := .ref (ah 4)) (C := RX1) (T := TX1) (N := 11) hx hb htB ziX1 hown hK hP 0 rfl rfl 4 (by decide) (htB _ zm_23) (fun _ h9 => h9) rfl dX1_comeThrough_191 ?_
      refine lv_iload_n hx hb dX1_comeThrough_194 rfl (lv_at hl 1 rfl) ?_
      have hPc : va_P D zCl [((ah 4), .inl (cy, 8, .inl (S_177 4)))] H := hP.sub [5] rfl
      refine zc_r (va_runSN (As := [.ref (ah 4), .int i2]) (rest := [.int i3, .ref (ah 6)]) ⟨hx, hb, hml, hown, htB⟩ (c_X4_at l D cy (ah 4) 8 (S_177 4) i2 h) ⟨va_cnB 2 htB (zgN zm_13) rfl rfl rfl (hN _ zm_19) (htB _ zm_4) hd_X4_at.2 ⟨Nat.le_of_ble_eq_true rfl, Nat.le_of_ble_eq_true rfl⟩, htB _ zm_14, trivial⟩ ⟨zR_blind, zR_pre hPc hK hN⟩ rfl rfl hl.1 rfl (lv_room (Nat.le_of_ble_eq_true rfl)) dX1_comeThrough_195 ⟨Nat.zero_le _, Nat.zero_le _⟩) (fun r195 h => ?_)
      refine lv_goto (tgt := 202) hx hb dX1_comeThrough_198 (by decide) ?_
      exact L202 i3 r195 S_177 h H locs hP hD hS ls (lv_sub hl [0] rfl)
  have L126 : ∀ (x5 : Int32) (x6 : Int32) (x8 : Int32) (t0 : Int32) (S : zT), wpb_X1_comeThrough_126 So1 i2 i3 Q x5 x6 x8 t0 S → ∀ (H : Heap) (locs : List Loc), va_P D zCl ((bX1 ah cy S) ++ ((bX3 ao1 cy So1))) H → va_D A ((bX1 ah cy S) ++ ((bX3 ao1 cy So1))) → va_S A s.heap H locs → ∀ ls : Array Slot, lv_has ls 10 [(0, .ref (ah 99)), (2, .int i2), (3, .int i3), (5, .int x5), (6, .int x6), (8, .int x8)] → W p l e rm_X1_comeThrough s m ([.ref (ah 99), .ref (ao1 99), .int i2, .int i3] : List Value).toArray below meth c H locs 0 0 (MQ below (va_Qv (S := zT) (fun (u : zT) => Q u) (fun u t => va_P D zCl ((fun (u : zT) => ((bX1 ah cy u) ++ ((bX3 ao1 cy So1)))) u) t.heap) A) ([.ref (ah 99), .ref (ao1 99), .int i2, .int i3] : List Value).toArray s 0 0 A) (F0 m 126 ls [.int t0]) := by
    intro x5 x6 x8 t0 S h H locs hP hD hS ls hl
    refine lv_istore (lv' := [(9, .int t0), (0, .ref (ah 99)), (2, .int i2), (3, .int i3), (5, .int x5), (6, .int x6), (8, .int x8)]) hx hb dX1_comeThrough_126 hl (by decide) rfl (fun ls hl => ?_)
    refine lv_aload_n hx hb dX1_comeThrough_128 rfl (lv_at hl 1 rfl) ?_
    refine va_get (D := D) (ci := 1) (v := .ref (ah 1)) (C := RX1) (T := TX1) (N := 11) hx hb htB ziX1 hown hK hP 0 rfl rfl 1 (by decide) (htB _ zm_41) (fun _ h9 => h9) rfl dX1_comeThrough_129 ?_
    refine lv_iload_n hx hb dX1_comeThrough_132 rfl (lv_at hl 3 rfl) ?_
    refine lv_iload hx hb dX1_comeThrough_133 (lv_at hl 5 rfl) ?_
    have hPc : va_P D zCl [((ah 1), .inl (cy, 8, .inl (S 1)))] H := hP.sub [2] rfl
    have hDc : va_D A [((ah 1), .inl (cy, 8, .inl (S 1)))] := hD.sub [2] (by decide) rfl
    refine zc_v (ws' := fun u => ((bX1 ah cy (va_up S 1 u)) ++ ((bX3 ao1 cy So1)))) (va_runSN (As := [.ref (ah 1), .int i3, .int x6]) (rest := []) ⟨hx, hb, hml, hown, htB⟩ (c_X4_put l D cy (ah 1) H.size 8 i3 x6 (S 1) h) ⟨va_cnB 3 htB (zgN zm_3) rfl rfl rfl (hN _ zm_39) (htB _ zm_4) hd_X4_put.2 ⟨Nat.le_of_ble_eq_true rfl, Nat.le_of_ble_eq_true rfl⟩, htB _ zm_5, trivial⟩ ⟨zM_blind, zM_pre hPc hK hN hDc⟩ rfl rfl hl.1 rfl (lv_room (Nat.le_of_ble_eq_true rfl)) dX1_comeThrough_135 ⟨Nat.zero_le _, Nat.zero_le _⟩) hS hA hP hD [2] [0, 1, 3, 4, 5, 6, 7, 8, 9, 10, 11, 12, 13] [0, 1, 13, 2, 3, 4, 5, 6, 7, 8, 9, 10, 11, 12] (by decide) rfl (by decide) (by decide) rfl (fun u => rfl) (fun u => rfl) (fun u => rfl) (fun u H locs h hP hD hS => ?_)
    obtain ⟨gf0_135, eu⟩ : ∃ z, z = u := ⟨_, rfl⟩
    subst eu
    replace hP : va_P D zCl ((bX1 ah cy (va_up S 1 gf0_135)) ++ ((bX3 ao1 cy So1))) H := hP
    replace hD : va_D A ((bX1 ah cy (va_up S 1 gf0_135)) ++ ((bX3 ao1 cy So1))) := hD
    obtain ⟨S_135, eS_135⟩ : ∃ z : zT, z = (va_up S 1 gf0_135) := ⟨_, rfl⟩
    replace h := h S_135 eS_135
    replace hP : va_P D zCl ((bX1 ah cy S_135) ++ ((bX3 ao1 cy So1))) H := by rw [eS_135]; exact hP
    replace hD : va_D A ((bX1 ah cy S_135) ++ ((bX3 ao1 cy So1))) := by rw [eS_135]; exact hD
    refine lv_aload_n hx hb dX1_comeThrough_138 rfl (lv_at hl 1 rfl) ?_
    refine va_get (D := D) (ci := 1) (v := .ref (ah 3)) (C := RX1) (T := TX1) (N := 11) hx hb htB ziX1 hown hK hP 0 rfl rfl 3 (by decide) (htB _ zm_42) (fun _ h9 => h9) rfl dX1_comeThrough_139 ?_
    refine lv_iload_n hx hb dX1_comeThrough_142 rfl (lv_at hl 3 rfl) ?_
    refine lv_iload hx hb dX1_comeThrough_143 (lv_at hl 6 rfl) ?_
    have hPc : va_P D zCl [((ah 3), .inl (cy, 8, .inl (S_135 3)))] H := hP.sub [4] rfl
    have hDc : va_D A [((ah 3), .inl (cy, 8, .inl (S_135 3)))] := hD.sub [4] (by decide) rfl
    refine zc_v (ws' := fun u => ((bX1 ah cy (va_up S_135 3 u)) ++ ((bX3 ao1 cy So1)))) (va_runSN (As := [.ref (ah 3), .int i3, .int x8]) (rest := []) ⟨hx, hb, hml, hown, htB⟩ (c_X4_put l D cy (ah 3) H.size 8 i3 x8 (S_135 3) h) ⟨va_cnB 3 htB (zgN zm_3) rfl rfl rfl (hN _ zm_39) (htB _ zm_4) hd_X4_put.2 ⟨Nat.le_of_ble_eq_true rfl, Nat.le_of_ble_eq_true rfl⟩, htB _ zm_5, trivial⟩ ⟨zM_blind, zM_pre hPc hK hN hDc⟩ rfl rfl hl.1 rfl (lv_room (Nat.le_of_ble_eq_true rfl)) dX1_comeThrough_145 ⟨Nat.zero_le _, Nat.zero_le _⟩) hS hA hP hD [4] [0, 1, 2, 3, 5, 6, 7, 8, 9, 10, 11, 12, 13] [0, 1, 2, 3, 13, 4, 5, 6, 7, 8, 9, 10, 11, 12] (by decide) rfl (by decide) (by decide) rfl (fun u => rfl) (fun u => rfl) (fun u => rfl) (fun u H locs h hP hD hS => ?_)
    obtain ⟨gf0_145, eu⟩ : ∃ z, z = u := ⟨_, rfl⟩
    subst eu
    replace hP : va_P D zCl ((bX1 ah cy (va_up S_135 3 gf0_145)) ++ ((bX3 ao1 cy So1))) H := hP
    replace hD : va_D A ((bX1 ah cy (va_up S_135 3 gf0_145)) ++ ((bX3 ao1 cy So1))) := hD
    obtain ⟨S_145, eS_145⟩ : ∃ z : zT, z = (va_up S_135 3 gf0_145) := ⟨_, rfl⟩
    replace h := h S_145 eS_145
    replace hP : va_P D zCl ((bX1 ah cy S_145) ++ ((bX3 ao1 cy So1))) H := by rw [eS_145]; exact hP
    replace hD : va_D A ((bX1 ah cy S_145) ++ ((bX3 ao1 cy So1))) := by rw [eS_145]; exact hD
    refine lv_aload_n hx hb dX1_comeThrough_148 rfl (lv_at hl 1 rfl) ?_
    refine va_get (D := D) (ci := 1) (v := .ref (ah 2)) (C := RX1) (T := TX1) (N := 11) hx hb htB ziX1 hown hK hP 0 rfl rfl 2 (by decide) (htB _ zm_22) (fun _ h9 => h9) rfl dX1_comeThrough_149 ?_
    refine lv_iload_n hx hb dX1_comeThrough_152 rfl (lv_at hl 3 rfl) ?_
    refine lv_iload hx hb dX1_comeThrough_153 (lv_at hl 5 rfl) ?_
    refine lv_iload hx hb dX1_comeThrough_155 (lv_at hl 6 rfl) ?_
    refine lv_iadd hx hb dX1_comeThrough_157 ?_
    have hPc : va_P D zCl [((ah 2), .inl (cy, 8, .inl (S_145 2)))] H := hP.sub [3] rfl
    have hDc : va_D A [((ah 2), .inl (cy, 8, .inl (S_145 2)))] := hD.sub [3] (by decide) rfl
    refine zc_v (ws' := fun u => ((bX1 ah cy (va_up S_145 2 u)) ++ ((bX3 ao1 cy So1)))) (va_runSN (As := [.ref (ah 2), .int i3, .int (x6 + x8)]) (rest := []) ⟨hx, hb, hml, hown, htB⟩ (c_X4_put l D cy (ah 2) H.size 8 i3 (x6 + x8) (S_145 2) h) ⟨va_cnB 3 htB (zgN zm_3) rfl rfl rfl (hN _ zm_39) (htB _ zm_4) hd_X4_put.2 ⟨Nat.le_of_ble_eq_true rfl, Nat.le_of_ble_eq_true rfl⟩, htB _ zm_5, trivial⟩ ⟨zM_blind, zM_pre hPc hK hN hDc⟩ rfl rfl hl.1 rfl (lv_room (Nat.le_of_ble_eq_true rfl)) dX1_comeThrough_158 ⟨Nat.zero_le _, Nat.zero_le _⟩) hS hA hP hD [3] [0, 1, 2, 4, 5, 6, 7, 8, 9, 10, 11, 12, 13] [0, 1, 2, 13, 3, 4, 5, 6, 7, 8, 9, 10, 11, 12] (by decide) rfl (by decide) (by decide) rfl (fun u => rfl) (fun u => rfl) (fun u => rfl) (fun u H locs h hP hD hS => ?_)
    obtain ⟨gf0_158, eu⟩ : ∃ z, z = u := ⟨_, rfl⟩
    subst eu
    replace hP : va_P D zCl ((bX1 ah cy (va_up S_145 2 gf0_158)) ++ ((bX3 ao1 cy So1))) H := hP
    replace hD : va_D A ((bX1 ah cy (va_up S_145 2 gf0_158)) ++ ((bX3 ao1 cy So1))) := hD
    obtain ⟨S_158, eS_158⟩ : ∃ z : zT, z = (va_up S_145 2 gf0_158) := ⟨_, rfl⟩
    replace h := h S_158 eS_158
    replace hP : va_P D zCl ((bX1 ah cy S_158) ++ ((bX3 ao1 cy So1))) H := by rw [eS_158]; exact hP
    replace hD : va_D A ((bX1 ah cy S_158) ++ ((bX3 ao1 cy So1))) := by rw [eS_158]; exact hD
    refine lv_aload_n hx hb dX1_comeThrough_161 rfl (lv_at hl 1 rfl) ?_
    refine va_get (D := D) (ci := 1) (v := .ref (ah 5)) (C := RX1) (T := TX1) (N := 11) hx hb htB ziX1 hown hK hP 0 rfl rfl 5 (by decide) (htB _ zm_43) (fun _ h9 => h9) rfl dX1_comeThrough_162 ?_
    refine lv_iload_n hx hb dX1_comeThrough_165 rfl (lv_at hl 3 rfl) ?_
    refine lv_iload hx hb dX1_comeThrough_166 (lv_at hl 4 rfl) ?_
    refine lv_if_eq (tgt := 175) hx hb dX1_comeThrough_168 (by decide) (fun c168 => ?_) (fun c168 => ?_)
    · replace h := And.left h c168
      refine lv_bipush (v := (-9 : Int32)) hx hb dX1_comeThrough_175 (by decide) ?_
      exact L177 t0 i3 (-9 : Int32) S_158 h H locs hP hD hS ls (lv_sub hl [1, 2, 3, 0] rfl)
    · replace h := And.right h c168
      refine lv_iload_n hx hb dX1_comeThrough_171 rfl (lv_at hl 2 rfl) ?_
      refine lv_goto (tgt := 177) hx hb dX1_comeThrough_172 (by decide) ?_
      exact L177 t0 i3 i2 S_158 h H locs hP hD hS ls (lv_sub hl [1, 2, 3, 0] rfl)
  have L125 : ∀ (x5 : Int32) (x6 : Int32) (x8 : Int32) (S : zT), wpb_X1_comeThrough_125 So1 i2 i3 Q x5 x6 x8 S → ∀ (H : Heap) (locs : List Loc), va_P D zCl ((bX1 ah cy S) ++ ((bX3 ao1 cy So1))) H → va_D A ((bX1 ah cy S) ++ ((bX3 ao1 cy So1))) → va_S A s.heap H locs → ∀ ls : Array Slot, lv_has ls 10 [(0, .ref (ah 99)), (2, .int i2), (3, .int i3), (5, .int x5), (6, .int x6), (8, .int x8)] → W p l e rm_X1_comeThrough s m ([.ref (ah 99), .ref (ao1 99), .int i2, .int i3] : List Value).toArray below meth c H locs 0 0 (MQ below (va_Qv (S := zT) (fun (u : zT) => Q u) (fun u t => va_P D zCl ((fun (u : zT) => ((bX1 ah cy u) ++ ((bX3 ao1 cy So1)))) u) t.heap) A) ([.ref (ah 99), .ref (ao1 99), .int i2, .int i3] : List Value).toArray s 0 0 A) (F0 m 125 ls []) := by
    intro x5 x6 x8 S h H locs hP hD hS ls hl
    refine lv_iconst (v := (0 : Int32)) hx hb dX1_comeThrough_125 (by decide) ?_
    exact L126 x5 x6 x8 (0 : Int32) S h H locs hP hD hS ls (lv_sub hl [0, 1, 2, 3, 4, 5] rfl)
  have L100 : ∀ (x5 : Int32) (x6 : Int32) (t0 : Int32) (S : zT), wpb_X1_comeThrough_100 So1 i2 i3 Q x5 x6 t0 S → ∀ (H : Heap) (locs : List Loc), va_P D zCl ((bX1 ah cy S) ++ ((bX3 ao1 cy So1))) H → va_D A ((bX1 ah cy S) ++ ((bX3 ao1 cy So1))) → va_S A s.heap H locs → ∀ ls : Array Slot, lv_has ls 10 [(0, .ref (ah 99)), (1, .ref (ao1 99)), (2, .int i2), (3, .int i3), (5, .int x5), (6, .int x6)] → W p l e rm_X1_comeThrough s m ([.ref (ah 99), .ref (ao1 99), .int i2, .int i3] : List Value).toArray below meth c H locs 0 0 (MQ below (va_Qv (S := zT) (fun (u : zT) => Q u) (fun u t => va_P D zCl ((fun (u : zT) => ((bX1 ah cy u) ++ ((bX3 ao1 cy So1)))) u) t.heap) A) ([.ref (ah 99), .ref (ao1 99), .int i2, .int i3] : List Value).toArray s 0 0 A) (F0 m 100 ls [.int t0]) := by
    intro x5 x6 t0 S h H locs hP hD hS ls hl
    refine lv_istore (lv' := [(8, .int t0), (0, .ref (ah 99)), (1, .ref (ao1 99)), (2, .int i2), (3, .int i3), (5, .int x5), (6, .int x6)]) hx hb dX1_comeThrough_100 hl (by decide) rfl (fun ls hl => ?_)
    refine lv_iload hx hb dX1_comeThrough_102 (lv_at hl 5 rfl) ?_
    refine lv_if_eq (tgt := 125) hx hb dX1_comeThrough_104 (by decide) (fun c104 => ?_) (fun c104 => ?_)
    · replace h := And.left h c104
      exact L125 x5 x6 t0 S h H locs hP hD hS ls (lv_sub hl [1, 3, 4, 5, 6, 0] rfl)
    · replace h := And.right h c104
      refine lv_aload_n hx hb dX1_comeThrough_107 rfl (lv_at hl 2 rfl) ?_
      refine lv_iload_n hx hb dX1_comeThrough_108 rfl (lv_at hl 4 rfl) ?_
      have hPc : va_P D zCl (bX3 ao1 cy So1) H := hP.sub [11, 12, 13] rfl
      refine zc_r (va_runV (As := [.int i3]) (rest := []) ⟨hx, hb, hml, hown, htB⟩ (c_X3_yardsHeldFor l D cy ao1 So1 i3 h) (cwV 1 htB (zgV zm_44 zm_46 zm_47 zm_28 zm_45) rfl rfl rfl hd_X3_yardsHeldFor ⟨Nat.le_of_ble_eq_true rfl, Nat.le_of_ble_eq_true rfl⟩) ⟨zR_blind, va_recv hK hP (ci := 3) (q0 := 11) rfl rfl, zR_pre hPc hK hN⟩ rfl rfl hl.1 rfl (lv_room (Nat.le_of_ble_eq_true rfl)) dX1_comeThrough_109 ⟨Nat.zero_le _, Nat.zero_le _⟩) (fun r109 h => ?_)
      refine lv_aload_n hx hb dX1_comeThrough_112 rfl (lv_at hl 2 rfl) ?_
      refine lv_iload_n hx hb dX1_comeThrough_113 rfl (lv_at hl 4 rfl) ?_
      refine lv_iconst (v := (3 : Int32)) hx hb dX1_comeThrough_114 (by decide) ?_
      have hPc : va_P D zCl (bX3 ao1 cy So1) H := hP.sub [11, 12, 13] rfl
      refine zc_r (va_runV (As := [.int i3, .int (3 : Int32)]) (rest := [.int r109]) ⟨hx, hb, hml, hown, htB⟩ (c_X3_of l D cy ao1 So1 i3 (3 : Int32) h) (cwV 2 htB (zgV zm_48 zm_33 zm_34 zm_28 zm_32) rfl rfl rfl hd_X3_of ⟨Nat.le_of_ble_eq_true rfl, Nat.le_of_ble_eq_true rfl⟩) ⟨zR_blind, va_recv hK hP (ci := 3) (q0 := 11) rfl rfl, zR_pre hPc hK hN⟩ rfl rfl hl.1 rfl (lv_room (Nat.le_of_ble_eq_true rfl)) dX1_comeThrough_115 ⟨Nat.zero_le _, Nat.zero_le _⟩) (fun r115 h => ?_)
      refine lv_icmp_le (tgt := 125) hx hb dX1_comeThrough_118 (by decide) (fun c118 => ?_) (fun c118 => ?_)
      · replace h := And.left h c118
        exact L125 x5 x6 t0 S h H locs hP hD hS ls (lv_sub hl [1, 3, 4, 5, 6, 0] rfl)
      · replace h := And.right h c118
        refine lv_iconst (v := (1 : Int32)) hx hb dX1_comeThrough_121 (by decide) ?_
        refine lv_goto (tgt := 126) hx hb dX1_comeThrough_122 (by decide) ?_
        exact L126 x5 x6 t0 (1 : Int32) S h H locs hP hD hS ls (lv_sub hl [1, 3, 4, 5, 6, 0] rfl)
  have L84 : ∀ (x5 : Int32) (x6 : Int32) (t0 : Int32) (S : zT), wpb_X1_comeThrough_84 So1 i2 i3 Q x5 x6 t0 S → ∀ (H : Heap) (locs : List Loc), va_P D zCl ((bX1 ah cy S) ++ ((bX3 ao1 cy So1))) H → va_D A ((bX1 ah cy S) ++ ((bX3 ao1 cy So1))) → va_S A s.heap H locs → ∀ ls : Array Slot, lv_has ls 10 [(0, .ref (ah 99)), (1, .ref (ao1 99)), (2, .int i2), (3, .int i3), (5, .int x5), (6, .int x6)] → W p l e rm_X1_comeThrough s m ([.ref (ah 99), .ref (ao1 99), .int i2, .int i3] : List Value).toArray below meth c H locs 0 0 (MQ below (va_Qv (S := zT) (fun (u : zT) => Q u) (fun u t => va_P D zCl ((fun (u : zT) => ((bX1 ah cy u) ++ ((bX3 ao1 cy So1)))) u) t.heap) A) ([.ref (ah 99), .ref (ao1 99), .int i2, .int i3] : List Value).toArray s 0 0 A) (F0 m 84 ls [.int t0]) := by
    intro x5 x6 t0 S h H locs hP hD hS ls hl
    refine lv_istore (lv' := [(7, .int t0), (0, .ref (ah 99)), (1, .ref (ao1 99)), (2, .int i2), (3, .int i3), (5, .int x5), (6, .int x6)]) hx hb dX1_comeThrough_84 hl (by decide) rfl (fun ls hl => ?_)
    refine lv_iload hx hb dX1_comeThrough_86 (lv_at hl 0 rfl) ?_
    refine lv_if_eq (tgt := 95) hx hb dX1_comeThrough_88 (by decide) (fun c88 => ?_) (fun c88 => ?_)
    · replace h := And.left h c88
      refine lv_aload_n hx hb dX1_comeThrough_95 rfl (lv_at hl 2 rfl) ?_
      refine lv_iload_n hx hb dX1_comeThrough_96 rfl (lv_at hl 4 rfl) ?_
      have hPc : va_P D zCl (bX3 ao1 cy So1) H := hP.sub [11, 12, 13] rfl
      refine zc_r (va_runV (As := [.int i3]) (rest := []) ⟨hx, hb, hml, hown, htB⟩ (c_X3_secondsToOpen l D cy ao1 So1 i3 h) (cwV 1 htB (zgV zm_49 zm_51 zm_52 zm_28 zm_50) rfl rfl rfl hd_X3_secondsToOpen ⟨Nat.le_of_ble_eq_true rfl, Nat.le_of_ble_eq_true rfl⟩) ⟨zR_blind, va_recv hK hP (ci := 3) (q0 := 11) rfl rfl, zR_pre hPc hK hN⟩ rfl rfl hl.1 rfl (lv_room (Nat.le_of_ble_eq_true rfl)) dX1_comeThrough_97 ⟨Nat.zero_le _, Nat.zero_le _⟩) (fun r97 h => ?_)
      exact L100 x5 x6 r97 S h H locs hP hD hS ls (lv_sub hl [1, 2, 3, 4, 5, 6] rfl)
    · replace h := And.right h c88
      refine lv_iconst (v := (0 : Int32)) hx hb dX1_comeThrough_91 (by decide) ?_
      refine lv_goto (tgt := 100) hx hb dX1_comeThrough_92 (by decide) ?_
      exact L100 x5 x6 (0 : Int32) S h H locs hP hD hS ls (lv_sub hl [1, 2, 3, 4, 5, 6] rfl)
  have L83 : ∀ (x5 : Int32) (x6 : Int32) (S : zT), wpb_X1_comeThrough_83 So1 i2 i3 Q x5 x6 S → ∀ (H : Heap) (locs : List Loc), va_P D zCl ((bX1 ah cy S) ++ ((bX3 ao1 cy So1))) H → va_D A ((bX1 ah cy S) ++ ((bX3 ao1 cy So1))) → va_S A s.heap H locs → ∀ ls : Array Slot, lv_has ls 10 [(0, .ref (ah 99)), (1, .ref (ao1 99)), (2, .int i2), (3, .int i3), (5, .int x5), (6, .int x6)] → W p l e rm_X1_comeThrough s m ([.ref (ah 99), .ref (ao1 99), .int i2, .int i3] : List Value).toArray below meth c H locs 0 0 (MQ below (va_Qv (S := zT) (fun (u : zT) => Q u) (fun u t => va_P D zCl ((fun (u : zT) => ((bX1 ah cy u) ++ ((bX3 ao1 cy So1)))) u) t.heap) A) ([.ref (ah 99), .ref (ao1 99), .int i2, .int i3] : List Value).toArray s 0 0 A) (F0 m 83 ls []) := by
    intro x5 x6 S h H locs hP hD hS ls hl
    refine lv_iconst (v := (0 : Int32)) hx hb dX1_comeThrough_83 (by decide) ?_
    exact L84 x5 x6 (0 : Int32) S h H locs hP hD hS ls (lv_sub hl [0, 1, 2, 3, 4, 5] rfl)
  have L60 : ∀ (x4 : Int32) (x5 : Int32) (t0 : Int32) (S : zT), wpb_X1_comeThrough_60 So1 i2 i3 Q x4 x5 t0 S → ∀ (H : Heap) (locs : List Loc), va_P D zCl ((bX1 ah cy S) ++ ((bX3 ao1 cy So1))) H → va_D A ((bX1 ah cy S) ++ ((bX3 ao1 cy So1))) → va_S A s.heap H locs → ∀ ls : Array Slot, lv_has ls 10 [(0, .ref (ah 99)), (1, .ref (ao1 99)), (2, .int i2), (3, .int i3), (4, .int x4), (5, .int x5)] → W p l e rm_X1_comeThrough s m ([.ref (ah 99), .ref (ao1 99), .int i2, .int i3] : List Value).toArray below meth c H locs 0 0 (MQ below (va_Qv (S := zT) (fun (u : zT) => Q u) (fun u t => va_P D zCl ((fun (u : zT) => ((bX1 ah cy u) ++ ((bX3 ao1 cy So1)))) u) t.heap) A) ([.ref (ah 99), .ref (ao1 99), .int i2, .int i3] : List Value).toArray s 0 0 A) (F0 m 60 ls [.int t0]) := by
    intro x4 x5 t0 S h H locs hP hD hS ls hl
    refine lv_istore (lv' := [(6, .int t0), (0, .ref (ah 99)), (1, .ref (ao1 99)), (2, .int i2), (3, .int i3), (4, .int x4), (5, .int x5)]) hx hb dX1_comeThrough_60 hl (by decide) rfl (fun ls hl => ?_)
    refine lv_iload_n hx hb dX1_comeThrough_62 rfl (lv_at hl 3 rfl) ?_
    refine lv_if_lt (tgt := 83) hx hb dX1_comeThrough_63 (by decide) (fun c63 => ?_) (fun c63 => ?_)
    · replace h := And.left h c63
      exact L83 x5 t0 S h H locs hP hD hS ls (lv_sub hl [1, 2, 3, 4, 6, 0] rfl)
    · replace h := And.right h c63
      refine lv_iload hx hb dX1_comeThrough_66 (lv_at hl 0 rfl) ?_
      refine lv_iload hx hb dX1_comeThrough_68 (lv_at hl 5 rfl) ?_
      refine lv_isub hx hb dX1_comeThrough_70 ?_
      refine lv_aload_n hx hb dX1_comeThrough_71 rfl (lv_at hl 2 rfl) ?_
      refine lv_iconst (v := (0 : Int32)) hx hb dX1_comeThrough_72 (by decide) ?_
      have hPc : va_P D zCl (bX3 ao1 cy So1) H := hP.sub [11, 12, 13] rfl
      refine zc_r (va_runV (As := [.int (0 : Int32)]) (rest := [.int (t0 - x4)]) ⟨hx, hb, hml, hown, htB⟩ (c_X3_door l D cy ao1 So1 (0 : Int32) h) (cwV 1 htB (zgV zm_53 zm_29 zm_30 zm_28 zm_27) rfl rfl rfl hd_X3_door ⟨Nat.le_of_ble_eq_true rfl, Nat.le_of_ble_eq_true rfl⟩) ⟨zR_blind, va_recv hK hP (ci := 3) (q0 := 11) rfl rfl, zR_pre hPc hK hN⟩ rfl rfl hl.1 rfl (lv_room (Nat.le_of_ble_eq_true rfl)) dX1_comeThrough_73 ⟨Nat.zero_le _, Nat.zero_le _⟩) (fun r73 h => ?_)
      refine lv_icmp_ge (tgt := 83) hx hb dX1_comeThrough_76 (by decide) (fun c76 => ?_) (fun c76 => ?_)
      · replace h := And.left h c76
        exact L83 x5 t0 S h H locs hP hD hS ls (lv_sub hl [1, 2, 3, 4, 6, 0] rfl)
      · replace h := And.right h c76
        refine lv_iconst (v := (1 : Int32)) hx hb dX1_comeThrough_79 (by decide) ?_
        refine lv_goto (tgt := 84) hx hb dX1_comeThrough_80 (by decide) ?_
        exact L84 x5 t0 (1 : Int32) S h H locs hP hD hS ls (lv_sub hl [1, 2, 3, 4, 6, 0] rfl)
  have L35 : ∀ (x4 : Int32) (t0 : Int32) (S : zT), wpb_X1_comeThrough_35 So1 i2 i3 Q x4 t0 S → ∀ (H : Heap) (locs : List Loc), va_P D zCl ((bX1 ah cy S) ++ ((bX3 ao1 cy So1))) H → va_D A ((bX1 ah cy S) ++ ((bX3 ao1 cy So1))) → va_S A s.heap H locs → ∀ ls : Array Slot, lv_has ls 10 [(0, .ref (ah 99)), (1, .ref (ao1 99)), (2, .int i2), (3, .int i3), (4, .int x4)] → W p l e rm_X1_comeThrough s m ([.ref (ah 99), .ref (ao1 99), .int i2, .int i3] : List Value).toArray below meth c H locs 0 0 (MQ below (va_Qv (S := zT) (fun (u : zT) => Q u) (fun u t => va_P D zCl ((fun (u : zT) => ((bX1 ah cy u) ++ ((bX3 ao1 cy So1)))) u) t.heap) A) ([.ref (ah 99), .ref (ao1 99), .int i2, .int i3] : List Value).toArray s 0 0 A) (F0 m 35 ls [.int t0]) := by
    intro x4 t0 S h H locs hP hD hS ls hl
    refine lv_istore (lv' := [(5, .int t0), (0, .ref (ah 99)), (1, .ref (ao1 99)), (2, .int i2), (3, .int i3), (4, .int x4)]) hx hb dX1_comeThrough_35 hl (by decide) rfl (fun ls hl => ?_)
    refine lv_iload hx hb dX1_comeThrough_37 (lv_at hl 0 rfl) ?_
    refine lv_if_eq (tgt := 47) hx hb dX1_comeThrough_39 (by decide) (fun c39 => ?_) (fun c39 => ?_)
    · replace h := And.left h c39
      refine lv_aload_n hx hb dX1_comeThrough_47 rfl (lv_at hl 1 rfl) ?_
      refine va_get (D := D) (ci := 1) (v := .ref (ah 8)) (C := RX1) (T := TX1) (N := 11) hx hb htB ziX1 hown hK hP 0 rfl rfl 8 (by decide) (htB _ zm_20) (fun _ h9 => h9) rfl dX1_comeThrough_48 ?_
      refine lv_iload_n hx hb dX1_comeThrough_51 rfl (lv_at hl 4 rfl) ?_
      have hPc : va_P D zCl [((ah 8), .inl (cy, 8, .inl (S 8)))] H := hP.sub [9] rfl
      refine zc_r (va_runSN (As := [.ref (ah 8), .int i3]) (rest := []) ⟨hx, hb, hml, hown, htB⟩ (c_X4_at l D cy (ah 8) 8 (S 8) i3 h) ⟨va_cnB 2 htB (zgN zm_13) rfl rfl rfl (hN _ zm_19) (htB _ zm_4) hd_X4_at.2 ⟨Nat.le_of_ble_eq_true rfl, Nat.le_of_ble_eq_true rfl⟩, htB _ zm_14, trivial⟩ ⟨zR_blind, zR_pre hPc hK hN⟩ rfl rfl hl.1 rfl (lv_room (Nat.le_of_ble_eq_true rfl)) dX1_comeThrough_52 ⟨Nat.zero_le _, Nat.zero_le _⟩) (fun r52 h => ?_)
      refine lv_iload hx hb dX1_comeThrough_55 (lv_at hl 5 rfl) ?_
      refine va_mmax hx hb (hml.trans hl.1.symm) hown (htB _ zm_54) (htB _ zm_36) (htB _ zm_37) (htB _ zm_38) (Nat.le_of_ble_eq_true rfl) (Nat.le_of_ble_eq_true rfl) (Nat.zero_le _) (Nat.zero_le _) dX1_comeThrough_57 ?_
      exact L60 x4 t0 (if r52 < x4 then x4 else r52) S h H locs hP hD hS ls (lv_sub hl [1, 2, 3, 4, 5, 0] rfl)
    · replace h := And.right h c39
      refine lv_iload hx hb dX1_comeThrough_42 (lv_at hl 5 rfl) ?_
      refine lv_goto (tgt := 60) hx hb dX1_comeThrough_44 (by decide) ?_
      exact L60 x4 t0 x4 S h H locs hP hD hS ls (lv_sub hl [1, 2, 3, 4, 5, 0] rfl)
  have L34 : ∀ (x4 : Int32) (S : zT), wpb_X1_comeThrough_34 So1 i2 i3 Q x4 S → ∀ (H : Heap) (locs : List Loc), va_P D zCl ((bX1 ah cy S) ++ ((bX3 ao1 cy So1))) H → va_D A ((bX1 ah cy S) ++ ((bX3 ao1 cy So1))) → va_S A s.heap H locs → ∀ ls : Array Slot, lv_has ls 10 [(0, .ref (ah 99)), (1, .ref (ao1 99)), (2, .int i2), (3, .int i3), (4, .int x4)] → W p l e rm_X1_comeThrough s m ([.ref (ah 99), .ref (ao1 99), .int i2, .int i3] : List Value).toArray below meth c H locs 0 0 (MQ below (va_Qv (S := zT) (fun (u : zT) => Q u) (fun u t => va_P D zCl ((fun (u : zT) => ((bX1 ah cy u) ++ ((bX3 ao1 cy So1)))) u) t.heap) A) ([.ref (ah 99), .ref (ao1 99), .int i2, .int i3] : List Value).toArray s 0 0 A) (F0 m 34 ls []) := by
    intro x4 S h H locs hP hD hS ls hl
    refine lv_iconst (v := (0 : Int32)) hx hb dX1_comeThrough_34 (by decide) ?_
    exact L35 x4 (0 : Int32) S h H locs hP hD hS ls (lv_sub hl [0, 1, 2, 3, 4] rfl)
  have L13 : ∀ (t0 : Int32) (S : zT), wpb_X1_comeThrough_13 So1 i2 i3 Q t0 S → ∀ (H : Heap) (locs : List Loc), va_P D zCl ((bX1 ah cy S) ++ ((bX3 ao1 cy So1))) H → va_D A ((bX1 ah cy S) ++ ((bX3 ao1 cy So1))) → va_S A s.heap H locs → ∀ ls : Array Slot, lv_has ls 10 [(0, .ref (ah 99)), (1, .ref (ao1 99)), (2, .int i2), (3, .int i3)] → W p l e rm_X1_comeThrough s m ([.ref (ah 99), .ref (ao1 99), .int i2, .int i3] : List Value).toArray below meth c H locs 0 0 (MQ below (va_Qv (S := zT) (fun (u : zT) => Q u) (fun u t => va_P D zCl ((fun (u : zT) => ((bX1 ah cy u) ++ ((bX3 ao1 cy So1)))) u) t.heap) A) ([.ref (ah 99), .ref (ao1 99), .int i2, .int i3] : List Value).toArray s 0 0 A) (F0 m 13 ls [.int t0]) := by
    intro t0 S h H locs hP hD hS ls hl
    refine lv_istore (lv' := [(4, .int t0), (0, .ref (ah 99)), (1, .ref (ao1 99)), (2, .int i2), (3, .int i3)]) hx hb dX1_comeThrough_13 hl (by decide) rfl (fun ls hl => ?_)
    refine lv_iload_n hx hb dX1_comeThrough_15 rfl (lv_at hl 3 rfl) ?_
    refine lv_if_lt (tgt := 34) hx hb dX1_comeThrough_16 (by decide) (fun c16 => ?_) (fun c16 => ?_)
    · replace h := And.left h c16
      exact L34 t0 S h H locs hP hD hS ls (lv_sub hl [1, 2, 3, 4, 0] rfl)
    · replace h := And.right h c16
      refine lv_aload_n hx hb dX1_comeThrough_19 rfl (lv_at hl 1 rfl) ?_
      refine va_get (D := D) (ci := 1) (v := .ref (ah 4)) (C := RX1) (T := TX1) (N := 11) hx hb htB ziX1 hown hK hP 0 rfl rfl 4 (by decide) (htB _ zm_23) (fun _ h9 => h9) rfl dX1_comeThrough_20 ?_
      refine lv_iload_n hx hb dX1_comeThrough_23 rfl (lv_at hl 3 rfl) ?_
      have hPc : va_P D zCl [((ah 4), .inl (cy, 8, .inl (S 4)))] H := hP.sub [5] rfl
      refine zc_r (va_runSN (As := [.ref (ah 4), .int i2]) (rest := []) ⟨hx, hb, hml, hown, htB⟩ (c_X4_at l D cy (ah 4) 8 (S 4) i2 h) ⟨va_cnB 2 htB (zgN zm_13) rfl rfl rfl (hN _ zm_19) (htB _ zm_4) hd_X4_at.2 ⟨Nat.le_of_ble_eq_true rfl, Nat.le_of_ble_eq_true rfl⟩, htB _ zm_14, trivial⟩ ⟨zR_blind, zR_pre hPc hK hN⟩ rfl rfl hl.1 rfl (lv_room (Nat.le_of_ble_eq_true rfl)) dX1_comeThrough_24 ⟨Nat.zero_le _, Nat.zero_le _⟩) (fun r24 h => ?_)
      refine lv_if_le (tgt := 34) hx hb dX1_comeThrough_27 (by decide) (fun c27 => ?_) (fun c27 => ?_)
      · replace h := And.left h c27
        exact L34 t0 S h H locs hP hD hS ls (lv_sub hl [1, 2, 3, 4, 0] rfl)
      · replace h := And.right h c27
        refine lv_iconst (v := (1 : Int32)) hx hb dX1_comeThrough_30 (by decide) ?_
        refine lv_goto (tgt := 35) hx hb dX1_comeThrough_31 (by decide) ?_
        exact L35 t0 (1 : Int32) S h H locs hP hD hS ls (lv_sub hl [1, 2, 3, 4, 0] rfl)
  refine lv_iload_n hx hb dX1_comeThrough_0 rfl (lv_at hl 2 rfl) ?_
  refine lv_if_ge (tgt := 8) hx hb dX1_comeThrough_1 (by decide) (fun c1 => ?_) (fun c1 => ?_)
  · replace h := And.left h c1
    refine lv_aload_n hx hb dX1_comeThrough_8 rfl (lv_at hl 0 rfl) ?_
    refine lv_iload_n hx hb dX1_comeThrough_9 rfl (lv_at hl 2 rfl) ?_
    have hPc : va_P D zCl (bX1 ah cy S) H := hP.sub [0, 1, 2, 3, 4, 5, 6, 7, 8, 9, 10] rfl
    refine zc_r (va_runV (As := [.int i2]) (rest := []) ⟨hx, hb, hml, hown, htB⟩ (c_X1_goneAt l D cy ah S i2 h) (cwV 1 htB (zgV zm_55 zm_58 zm_59 zm_57 zm_56) rfl rfl rfl hd_X1_goneAt ⟨Nat.le_of_ble_eq_true rfl, Nat.le_of_ble_eq_true rfl⟩) ⟨zR_blind, va_recv hK hP (ci := 1) (q0 := 0) rfl rfl, zR_pre hPc hK hN⟩ rfl rfl hl.1 rfl (lv_room (Nat.le_of_ble_eq_true rfl)) dX1_comeThrough_10 ⟨Nat.zero_le _, Nat.zero_le _⟩) (fun r10 h => ?_)
    exact L13 r10 S h H locs hP hD hS ls (lv_sub hl [0, 1, 2, 3] rfl)
  · replace h := And.right h c1
    refine lv_iconst (v := (0 : Int32)) hx hb dX1_comeThrough_4 (by decide) ?_
    refine lv_goto (tgt := 13) hx hb dX1_comeThrough_5 (by decide) ?_
    exact L13 (0 : Int32) S h H locs hP hD hS ls (lv_sub hl [0, 1, 2, 3] rfl)
set_option maxHeartbeats 4000000 in
set_option maxRecDepth 100000 in
theorem c_X3_yardsToGo (l : Launch) (D : va_G) (cy : ClassId) (ah : Nat → Nat) (S : zT) (i1 : Int32) (i2 : Int32) {Q : Int32 → Prop} (h : wp_X3_yardsToGo S i1 i2 Q) : Met l yX3_yardsToGo w_X3_yardsToGo rm_X3_yardsToGo (va_Pc [.ref (ah 99), .int i1, .int i2] (zR D cy (bX3 ah cy S))) (vp_Si Q) 0 0 (fun _ => False) := by
  refine zOf_r (by decide) (Nat.le_of_ble_eq_true rfl) ?_
  intro p e s m below meth c ls hx hb hr hml hown htB hlocks hK hN hP hl
  replace hl : lv_has ls 3 [(0, .ref (ah 99)), (1, .int i1), (2, .int i2)] := hl
  refine lv_aload_n hx hb dX3_yardsToGo_0 rfl (lv_at hl 0 rfl) ?_
  refine lv_iload_n hx hb dX3_yardsToGo_1 rfl (lv_at hl 1 rfl) ?_
  refine lv_iconst (v := (2 : Int32)) hx hb dX3_yardsToGo_2 (by decide) ?_
  refine zc_r (va_runV (As := [.int i1, .int (2 : Int32)]) (rest := []) ⟨hx, hb, hml, hown, htB⟩ (c_X3_of l D cy ah S i1 (2 : Int32) h) (cwV 2 htB (zgV zm_31 zm_33 zm_34 zm_28 zm_32) rfl rfl rfl hd_X3_of ⟨Nat.le_of_ble_eq_true rfl, Nat.le_of_ble_eq_true rfl⟩) ⟨zR_blind, va_recv hK hP (ci := 3) (q0 := 0) rfl rfl, zR_pre hP hK hN⟩ rfl rfl hl.1 rfl (lv_room (Nat.le_of_ble_eq_true rfl)) dX3_yardsToGo_3 ⟨Nat.zero_le _, Nat.zero_le _⟩) (fun r3 h => ?_)
  refine lv_aload_n hx hb dX3_yardsToGo_6 rfl (lv_at hl 0 rfl) ?_
  refine lv_iload_n hx hb dX3_yardsToGo_7 rfl (lv_at hl 1 rfl) ?_
  refine lv_iconst (v := (3 : Int32)) hx hb dX3_yardsToGo_8 (by decide) ?_
  refine zc_r (va_runV (As := [.int i1, .int (3 : Int32)]) (rest := [.int r3]) ⟨hx, hb, hml, hown, htB⟩ (c_X3_of l D cy ah S i1 (3 : Int32) h) (cwV 2 htB (zgV zm_31 zm_33 zm_34 zm_28 zm_32) rfl rfl rfl hd_X3_of ⟨Nat.le_of_ble_eq_true rfl, Nat.le_of_ble_eq_true rfl⟩) ⟨zR_blind, va_recv hK hP (ci := 3) (q0 := 0) rfl rfl, zR_pre hP hK hN⟩ rfl rfl hl.1 rfl (lv_room (Nat.le_of_ble_eq_true rfl)) dX3_yardsToGo_9 ⟨Nat.zero_le _, Nat.zero_le _⟩) (fun r9 h => ?_)
  refine lv_iload_n hx hb dX3_yardsToGo_12 rfl (lv_at hl 2 rfl) ?_
  refine lv_aload_n hx hb dX3_yardsToGo_13 rfl (lv_at hl 0 rfl) ?_
  refine lv_iload_n hx hb dX3_yardsToGo_14 rfl (lv_at hl 1 rfl) ?_
  refine lv_iconst (v := (1 : Int32)) hx hb dX3_yardsToGo_15 (by decide) ?_
  refine zc_r (va_runV (As := [.int i1, .int (1 : Int32)]) (rest := [.int i2, .int r9, .int r3]) ⟨hx, hb, hml, hown, htB⟩ (c_X3_of l D cy ah S i1 (1 : Int32) h) (cwV 2 htB (zgV zm_31 zm_33 zm_34 zm_28 zm_32) rfl rfl rfl hd_X3_of ⟨Nat.le_of_ble_eq_true rfl, Nat.le_of_ble_eq_true rfl⟩) ⟨zR_blind, va_recv hK hP (ci := 3) (q0 := 0) rfl rfl, zR_pre hP hK hN⟩ rfl rfl hl.1 rfl (lv_room (Nat.le_of_ble_eq_true rfl)) dX3_yardsToGo_16 ⟨Nat.zero_le _, Nat.zero_le _⟩) (fun r16 h => ?_)
  refine lv_isub hx hb dX3_yardsToGo_19 ?_
  refine lv_imul hx hb dX3_yardsToGo_20 ?_
  refine lv_isub hx hb dX3_yardsToGo_21 ?_
  exact W.iret (v := (r3 - (r9 * (i2 - r16)))) hx hb hr (fun t ht hW => ⟨_, rfl, h, ht⟩) (fun q hq => by cases hq) dX3_yardsToGo_22
set_option maxHeartbeats 4000000 in
set_option maxRecDepth 100000 in
theorem c_X3_holdsUpTo (l : Launch) (D : va_G) (cy : ClassId) (ah : Nat → Nat) (S : zT) (i1 : Int32) (i2 : Int32) (i3 : Int32) {Q : Int32 → Prop} (h : wp_X3_holdsUpTo S i1 i2 i3 Q) : Met l yX3_holdsUpTo w_X3_holdsUpTo rm_X3_holdsUpTo (va_Pc [.ref (ah 99), .int i1, .int i2, .int i3] (zR D cy (bX3 ah cy S))) (vp_Si Q) 0 0 (fun _ => False) := by
  refine zOf_r (by decide) (Nat.le_of_ble_eq_true rfl) ?_
  intro p e s m below meth c ls hx hb hr hml hown htB hlocks hK hN hP hl
  replace hl : lv_has ls 6 [(0, .ref (ah 99)), (1, .int i1), (2, .int i2), (3, .int i3)] := hl
  refine lv_aload_n hx hb dX3_holdsUpTo_0 rfl (lv_at hl 0 rfl) ?_
  refine lv_iload_n hx hb dX3_holdsUpTo_1 rfl (lv_at hl 1 rfl) ?_
  refine lv_iconst (v := (0 : Int32)) hx hb dX3_holdsUpTo_2 (by decide) ?_
  refine zc_r (va_runV (As := [.int i1, .int (0 : Int32)]) (rest := []) ⟨hx, hb, hml, hown, htB⟩ (c_X3_of l D cy ah S i1 (0 : Int32) h) (cwV 2 htB (zgV zm_31 zm_33 zm_34 zm_28 zm_32) rfl rfl rfl hd_X3_of ⟨Nat.le_of_ble_eq_true rfl, Nat.le_of_ble_eq_true rfl⟩) ⟨zR_blind, va_recv hK hP (ci := 3) (q0 := 0) rfl rfl, zR_pre hP hK hN⟩ rfl rfl hl.1 rfl (lv_room (Nat.le_of_ble_eq_true rfl)) dX3_holdsUpTo_3 ⟨Nat.zero_le _, Nat.zero_le _⟩) (fun r3 h => ?_)
  refine lv_iconst (v := (5 : Int32)) hx hb dX3_holdsUpTo_6 (by decide) ?_
  refine lv_icmp_ne (tgt := 12) hx hb dX3_holdsUpTo_7 (by decide) (fun c7 => ?_) (fun c7 => ?_)
  · replace h := And.right h c7
    refine lv_aload_n hx hb dX3_holdsUpTo_12 rfl (lv_at hl 0 rfl) ?_
    refine lv_iconst (v := (3 : Int32)) hx hb dX3_holdsUpTo_13 (by decide) ?_
    refine zc_r (va_runV (As := [.int (3 : Int32)]) (rest := []) ⟨hx, hb, hml, hown, htB⟩ (c_X3_door l D cy ah S (3 : Int32) h) (cwV 1 htB (zgV zm_26 zm_29 zm_30 zm_28 zm_27) rfl rfl rfl hd_X3_door ⟨Nat.le_of_ble_eq_true rfl, Nat.le_of_ble_eq_true rfl⟩) ⟨zR_blind, va_recv hK hP (ci := 3) (q0 := 0) rfl rfl, zR_pre hP hK hN⟩ rfl rfl hl.1 rfl (lv_room (Nat.le_of_ble_eq_true rfl)) dX3_holdsUpTo_14 ⟨Nat.zero_le _, Nat.zero_le _⟩) (fun r14 h => ?_)
    refine lv_istore (lv' := [(4, .int r14), (0, .ref (ah 99)), (1, .int i1), (2, .int i2), (3, .int i3)]) hx hb dX3_holdsUpTo_17 hl (by decide) rfl (fun ls hl => ?_)
    refine lv_aload_n hx hb dX3_holdsUpTo_19 rfl (lv_at hl 1 rfl) ?_
    refine lv_iload_n hx hb dX3_holdsUpTo_20 rfl (lv_at hl 3 rfl) ?_
    refine lv_iconst (v := (5 : Int32)) hx hb dX3_holdsUpTo_21 (by decide) ?_
    refine zc_r (va_runV (As := [.int i2, .int (5 : Int32)]) (rest := []) ⟨hx, hb, hml, hown, htB⟩ (c_X3_of l D cy ah S i2 (5 : Int32) h) (cwV 2 htB (zgV zm_31 zm_33 zm_34 zm_28 zm_32) rfl rfl rfl hd_X3_of ⟨Nat.le_of_ble_eq_true rfl, Nat.le_of_ble_eq_true rfl⟩) ⟨zR_blind, va_recv hK hP (ci := 3) (q0 := 0) rfl rfl, zR_pre hP hK hN⟩ rfl rfl hl.1 rfl (lv_room (Nat.le_of_ble_eq_true rfl)) dX3_holdsUpTo_22 ⟨Nat.zero_le _, Nat.zero_le _⟩) (fun r22 h => ?_)
    refine lv_istore (lv' := [(5, .int r22), (4, .int r14), (0, .ref (ah 99)), (1, .int i1), (2, .int i2), (3, .int i3)]) hx hb dX3_holdsUpTo_25 hl (by decide) rfl (fun ls hl => ?_)
    refine lv_aload_n hx hb dX3_holdsUpTo_27 rfl (lv_at hl 2 rfl) ?_
    refine lv_iconst (v := (4 : Int32)) hx hb dX3_holdsUpTo_28 (by decide) ?_
    refine zc_r (va_runV (As := [.int (4 : Int32)]) (rest := []) ⟨hx, hb, hml, hown, htB⟩ (c_X3_door l D cy ah S (4 : Int32) h) (cwV 1 htB (zgV zm_26 zm_29 zm_30 zm_28 zm_27) rfl rfl rfl hd_X3_door ⟨Nat.le_of_ble_eq_true rfl, Nat.le_of_ble_eq_true rfl⟩) ⟨zR_blind, va_recv hK hP (ci := 3) (q0 := 0) rfl rfl, zR_pre hP hK hN⟩ rfl rfl hl.1 rfl (lv_room (Nat.le_of_ble_eq_true rfl)) dX3_holdsUpTo_29 ⟨Nat.zero_le _, Nat.zero_le _⟩) (fun r29 h => ?_)
    by_cases c32_0 : r29 = (4 : Int32)
    · replace h := And.left h c32_0
      refine lv_tableIn (off := 28) (tgt := 60) hx hb dX3_holdsUpTo_32 (by rw [c32_0]; decide) (by rw [c32_0]; decide) (by rw [c32_0]; rfl) (by decide) ?_
      refine lv_bipush (v := (40 : Int32)) hx hb dX3_holdsUpTo_60 (by decide) ?_
      exact W.iret (v := (40 : Int32)) hx hb hr (fun t ht hW => ⟨_, rfl, h, ht⟩) (fun q hq => by cases hq) dX3_holdsUpTo_62
    · replace h := And.right h c32_0
      by_cases c32_1 : r29 = (5 : Int32)
      · replace h := And.left h c32_1
        refine lv_tableIn (off := 31) (tgt := 63) hx hb dX3_holdsUpTo_32 (by rw [c32_1]; decide) (by rw [c32_1]; decide) (by rw [c32_1]; rfl) (by decide) ?_
        refine lv_iload_n hx hb dX3_holdsUpTo_63 rfl (lv_at hl 5 rfl) ?_
        refine lv_if_eq (tgt := 72) hx hb dX3_holdsUpTo_64 (by decide) (fun c64 => ?_) (fun c64 => ?_)
        · replace h := And.left h c64
          refine lv_iconst (v := (0 : Int32)) hx hb dX3_holdsUpTo_72 (by decide) ?_
          exact W.iret (v := (0 : Int32)) hx hb hr (fun t ht hW => ⟨_, rfl, h, ht⟩) (fun q hq => by cases hq) dX3_holdsUpTo_73
        · replace h := And.right h c64
          refine lv_iload hx hb dX3_holdsUpTo_67 (lv_at hl 1 rfl) ?_
          refine lv_goto (tgt := 73) hx hb dX3_holdsUpTo_69 (by decide) ?_
          exact W.iret (v := r14) hx hb hr (fun t ht hW => ⟨_, rfl, h, ht⟩) (fun q hq => by cases hq) dX3_holdsUpTo_73
      · replace h := And.right h c32_1
        by_cases c32_2 : r29 = (6 : Int32)
        · replace h := And.left h c32_2
          refine lv_tableIn (off := 42) (tgt := 74) hx hb dX3_holdsUpTo_32 (by rw [c32_2]; decide) (by rw [c32_2]; decide) (by rw [c32_2]; rfl) (by decide) ?_
          refine lv_iconst (v := (0 : Int32)) hx hb dX3_holdsUpTo_74 (by decide) ?_
          refine lv_iconst (v := (2 : Int32)) hx hb dX3_holdsUpTo_75 (by decide) ?_
          refine lv_iload hx hb dX3_holdsUpTo_76 (lv_at hl 1 rfl) ?_
          refine lv_iload hx hb dX3_holdsUpTo_78 (lv_at hl 0 rfl) ?_
          refine lv_iconst (v := (0 : Int32)) hx hb dX3_holdsUpTo_80 (by decide) ?_
          have hPc : va_P D zCl ([] : va_W) s.heap := hP.sub [] rfl
          refine zc_r (va_runSN (As := [.int (2 : Int32), .int r14, .int r22, .int (0 : Int32)]) (rest := [.int (0 : Int32)]) ⟨hx, hb, hml, hown, htB⟩ (c_X4_filmUpTo l D cy  (2 : Int32) r14 r22 (0 : Int32) h) ⟨va_cnB 4 htB (zgN zm_16) rfl rfl rfl (hN _ zm_60) (htB _ zm_4) hd_X4_filmUpTo.2 ⟨Nat.le_of_ble_eq_true rfl, Nat.le_of_ble_eq_true rfl⟩, htB _ zm_17, trivial⟩ ⟨zR_blind, zR_pre hPc hK hN⟩ rfl rfl hl.1 rfl (lv_room (Nat.le_of_ble_eq_true rfl)) dX3_holdsUpTo_81 ⟨Nat.zero_le _, Nat.zero_le _⟩) (fun r81 h => ?_)
          refine lv_aload_n hx hb dX3_holdsUpTo_84 rfl (lv_at hl 2 rfl) ?_
          refine lv_iload_n hx hb dX3_holdsUpTo_85 rfl (lv_at hl 4 rfl) ?_
          refine lv_bipush (v := (6 : Int32)) hx hb dX3_holdsUpTo_86 (by decide) ?_
          refine zc_r (va_runV (As := [.int i2, .int (6 : Int32)]) (rest := [.int r81, .int (0 : Int32)]) ⟨hx, hb, hml, hown, htB⟩ (c_X3_of l D cy ah S i2 (6 : Int32) h) (cwV 2 htB (zgV zm_31 zm_33 zm_34 zm_28 zm_32) rfl rfl rfl hd_X3_of ⟨Nat.le_of_ble_eq_true rfl, Nat.le_of_ble_eq_true rfl⟩) ⟨zR_blind, va_recv hK hP (ci := 3) (q0 := 0) rfl rfl, zR_pre hP hK hN⟩ rfl rfl hl.1 rfl (lv_room (Nat.le_of_ble_eq_true rfl)) dX3_holdsUpTo_88 ⟨Nat.zero_le _, Nat.zero_le _⟩) (fun r88 h => ?_)
          refine lv_iadd hx hb dX3_holdsUpTo_91 ?_
          refine lv_aload_n hx hb dX3_holdsUpTo_92 rfl (lv_at hl 2 rfl) ?_
          refine lv_iload_n hx hb dX3_holdsUpTo_93 rfl (lv_at hl 3 rfl) ?_
          refine lv_bipush (v := (6 : Int32)) hx hb dX3_holdsUpTo_94 (by decide) ?_
          refine zc_r (va_runV (As := [.int i1, .int (6 : Int32)]) (rest := [.int (r81 + r88), .int (0 : Int32)]) ⟨hx, hb, hml, hown, htB⟩ (c_X3_of l D cy ah S i1 (6 : Int32) h) (cwV 2 htB (zgV zm_31 zm_33 zm_34 zm_28 zm_32) rfl rfl rfl hd_X3_of ⟨Nat.le_of_ble_eq_true rfl, Nat.le_of_ble_eq_true rfl⟩) ⟨zR_blind, va_recv hK hP (ci := 3) (q0 := 0) rfl rfl, zR_pre hP hK hN⟩ rfl rfl hl.1 rfl (lv_room (Nat.le_of_ble_eq_true rfl)) dX3_holdsUpTo_96 ⟨Nat.zero_le _, Nat.zero_le _⟩) (fun r96 h => ?_)
          refine lv_isub hx hb dX3_holdsUpTo_99 ?_
          refine va_mmax hx hb (hml.trans hl.1.symm) hown (htB _ zm_35) (htB _ zm_36) (htB _ zm_37) (htB _ zm_38) (Nat.le_of_ble_eq_true rfl) (Nat.le_of_ble_eq_true rfl) (Nat.zero_le _) (Nat.zero_le _) dX3_holdsUpTo_100 ?_
          exact W.iret (v := (if (0 : Int32) < ((r81 + r88) - r96) then ((r81 + r88) - r96) else (0 : Int32))) hx hb hr (fun t ht hW => ⟨_, rfl, h, ht⟩) (fun q hq => by cases hq) dX3_holdsUpTo_103
        · replace h := And.right h c32_2
          have z0 := lv_neT c32_0 (a := 4) rfl
          have z1 := lv_neT c32_1 (a := 5) rfl
          have z2 := lv_neT c32_2 (a := 6) rfl
          refine lv_tableOut (tgt := 104) hx hb dX3_holdsUpTo_32 (by omega) (by decide) ?_
          refine lv_aload_n hx hb dX3_holdsUpTo_104 rfl (lv_at hl 2 rfl) ?_
          refine lv_iconst (v := (4 : Int32)) hx hb dX3_holdsUpTo_105 (by decide) ?_
          refine zc_r (va_runV (As := [.int (4 : Int32)]) (rest := []) ⟨hx, hb, hml, hown, htB⟩ (c_X3_door l D cy ah S (4 : Int32) h) (cwV 1 htB (zgV zm_26 zm_29 zm_30 zm_28 zm_27) rfl rfl rfl hd_X3_door ⟨Nat.le_of_ble_eq_true rfl, Nat.le_of_ble_eq_true rfl⟩) ⟨zR_blind, va_recv hK hP (ci := 3) (q0 := 0) rfl rfl, zR_pre hP hK hN⟩ rfl rfl hl.1 rfl (lv_room (Nat.le_of_ble_eq_true rfl)) dX3_holdsUpTo_106 ⟨Nat.zero_le _, Nat.zero_le _⟩) (fun r106 h => ?_)
          refine lv_iload hx hb dX3_holdsUpTo_109 (lv_at hl 1 rfl) ?_
          refine lv_iload hx hb dX3_holdsUpTo_111 (lv_at hl 0 rfl) ?_
          refine lv_aload_n hx hb dX3_holdsUpTo_113 rfl (lv_at hl 2 rfl) ?_
          refine lv_iload_n hx hb dX3_holdsUpTo_114 rfl (lv_at hl 4 rfl) ?_
          refine lv_iconst (v := (4 : Int32)) hx hb dX3_holdsUpTo_115 (by decide) ?_
          refine zc_r (va_runV (As := [.int i2, .int (4 : Int32)]) (rest := [.int r22, .int r14, .int r106]) ⟨hx, hb, hml, hown, htB⟩ (c_X3_of l D cy ah S i2 (4 : Int32) h) (cwV 2 htB (zgV zm_31 zm_33 zm_34 zm_28 zm_32) rfl rfl rfl hd_X3_of ⟨Nat.le_of_ble_eq_true rfl, Nat.le_of_ble_eq_true rfl⟩) ⟨zR_blind, va_recv hK hP (ci := 3) (q0 := 0) rfl rfl, zR_pre hP hK hN⟩ rfl rfl hl.1 rfl (lv_room (Nat.le_of_ble_eq_true rfl)) dX3_holdsUpTo_116 ⟨Nat.zero_le _, Nat.zero_le _⟩) (fun r116 h => ?_)
          have hPc : va_P D zCl ([] : va_W) s.heap := hP.sub [] rfl
          refine zc_r (va_runSN (As := [.int r106, .int r14, .int r22, .int r116]) (rest := []) ⟨hx, hb, hml, hown, htB⟩ (c_X4_filmUpTo l D cy  r106 r14 r22 r116 h) ⟨va_cnB 4 htB (zgN zm_16) rfl rfl rfl (hN _ zm_60) (htB _ zm_4) hd_X4_filmUpTo.2 ⟨Nat.le_of_ble_eq_true rfl, Nat.le_of_ble_eq_true rfl⟩, htB _ zm_17, trivial⟩ ⟨zR_blind, zR_pre hPc hK hN⟩ rfl rfl hl.1 rfl (lv_room (Nat.le_of_ble_eq_true rfl)) dX3_holdsUpTo_119 ⟨Nat.zero_le _, Nat.zero_le _⟩) (fun r119 h => ?_)
          exact W.iret (v := r119) hx hb hr (fun t ht hW => ⟨_, rfl, h, ht⟩) (fun q hq => by cases hq) dX3_holdsUpTo_122
  · replace h := And.left h c7
    refine lv_iconst (v := (0 : Int32)) hx hb dX3_holdsUpTo_10 (by decide) ?_
    exact W.iret (v := (0 : Int32)) hx hb hr (fun t ht hW => ⟨_, rfl, h, ht⟩) (fun q hq => by cases hq) dX3_holdsUpTo_11
set_option maxHeartbeats 4000000 in
set_option maxRecDepth 100000 in
theorem c_X4_divideUp (l : Launch) (D : va_G) (cy : ClassId)  (i0 : Int32) (i1 : Int32) {Q : Int32 → Prop} (h : wp_X4_divideUp i0 i1 Q) : Met l yX4_divideUp w_X4_divideUp rm_X4_divideUp (va_Pc [.int i0, .int i1] (zR D cy ([] : va_W))) (vp_Si Q) 0 0 (fun _ => False) := by
  refine zOf_r (by decide) (Nat.le_of_ble_eq_true rfl) ?_
  intro p e s m below meth c ls hx hb hr hml hown htB hlocks hK hN hP hl
  replace hl : lv_has ls 2 [(0, .int i0), (1, .int i1)] := hl
  refine lv_iload_n hx hb dX4_divideUp_0 rfl (lv_at hl 1 rfl) ?_
  refine lv_iconst (v := (1 : Int32)) hx hb dX4_divideUp_1 (by decide) ?_
  refine lv_icmp_ge (tgt := 9) hx hb dX4_divideUp_2 (by decide) (fun c2 => ?_) (fun c2 => ?_)
  · replace h := And.left h c2
    refine lv_iload_n hx hb dX4_divideUp_9 rfl (lv_at hl 0 rfl) ?_
    refine lv_iload_n hx hb dX4_divideUp_10 rfl (lv_at hl 1 rfl) ?_
    refine lv_iadd hx hb dX4_divideUp_11 ?_
    refine lv_iconst (v := (1 : Int32)) hx hb dX4_divideUp_12 (by decide) ?_
    refine lv_isub hx hb dX4_divideUp_13 ?_
    refine lv_iload_n hx hb dX4_divideUp_14 rfl (lv_at hl 1 rfl) ?_
    refine lv_idiv hx hb dX4_divideUp_15 (And.left h) ?_
    replace h := And.right h
    exact W.iret (v := (((i0 + i1) - (1 : Int32)) / i1)) hx hb hr (fun t ht hW => ⟨_, rfl, h, ht⟩) (fun q hq => by cases hq) dX4_divideUp_16
  · replace h := And.right h c2
    refine lv_iconst (v := (0 : Int32)) hx hb dX4_divideUp_5 (by decide) ?_
    refine lv_goto (tgt := 16) hx hb dX4_divideUp_6 (by decide) ?_
    exact W.iret (v := (0 : Int32)) hx hb hr (fun t ht hW => ⟨_, rfl, h, ht⟩) (fun q hq => by cases hq) dX4_divideUp_16
set_option maxHeartbeats 4000000 in
set_option maxRecDepth 100000 in
theorem c_X1_secondsHeldFor (l : Launch) (D : va_G) (cy : ClassId) (ah : Nat → Nat) (ao1 : Nat → Nat) (S : zT) (So1 : zT) (i2 : Int32) (i3 : Int32) {Q : Int32 → Prop} (h : wp_X1_secondsHeldFor S So1 i2 i3 Q) : Met l yX1_secondsHeldFor w_X1_secondsHeldFor rm_X1_secondsHeldFor (va_Pc [.ref (ah 99), .ref (ao1 99), .int i2, .int i3] (zR D cy ((bX1 ah cy S) ++ ((bX3 ao1 cy So1))))) (vp_Si Q) 0 0 (fun _ => False) := by
  refine zOf_r (by decide) (Nat.le_of_ble_eq_true rfl) ?_
  intro p e s m below meth c ls hx hb hr hml hown htB hlocks hK hN hP hl
  replace hl : lv_has ls 6 [(0, .ref (ah 99)), (1, .ref (ao1 99)), (2, .int i2), (3, .int i3)] := hl
  have L58 : ∀ (x5 : Int32) (t0 : Int32) (t2 : Int32) (t3 : Int32) (t4 : Int32), wpb_X1_secondsHeldFor_58 S So1 i2 i3 Q x5 t0 t2 t3 t4 → ∀ ls : Array Slot, lv_has ls 6 [(0, .ref (ah 99)), (1, .ref (ao1 99)), (3, .int i3), (5, .int x5)] → W p l e rm_X1_secondsHeldFor s m ([.ref (ah 99), .ref (ao1 99), .int i2, .int i3] : List Value).toArray below meth c s.heap [] 0 0 (MQ below (vp_Si Q) ([.ref (ah 99), .ref (ao1 99), .int i2, .int i3] : List Value).toArray s 0 0 (fun _ => False)) (F0 m 58 ls [.int t4, .int t3, .int t2, .ref (ao1 99), .int t0]) := by
    intro x5 t0 t2 t3 t4 h ls hl
    have hPc : va_P D zCl (bX3 ao1 cy So1) s.heap := hP.sub [11, 12, 13] rfl
    refine zc_r (va_runV (As := [.int t2, .int t3, .int t4]) (rest := [.int t0]) ⟨hx, hb, hml, hown, htB⟩ (c_X3_holdsUpTo l D cy ao1 So1 t2 t3 t4 h) (cwV 3 htB (zgV zm_61 zm_63 zm_64 zm_28 zm_62) rfl rfl rfl hd_X3_holdsUpTo ⟨Nat.le_of_ble_eq_true rfl, Nat.le_of_ble_eq_true rfl⟩) ⟨zR_blind, va_recv hK hP (ci := 3) (q0 := 11) rfl rfl, zR_pre hPc hK hN⟩ rfl rfl hl.1 rfl (lv_room (Nat.le_of_ble_eq_true rfl)) dX1_secondsHeldFor_58 ⟨Nat.zero_le _, Nat.zero_le _⟩) (fun r58 h => ?_)
    refine lv_icmp_le (tgt := 66) hx hb dX1_secondsHeldFor_61 (by decide) (fun c61 => ?_) (fun c61 => ?_)
    · replace h := And.left h c61
      refine lv_iload hx hb dX1_secondsHeldFor_66 (lv_at hl 3 rfl) ?_
      refine lv_aload_n hx hb dX1_secondsHeldFor_68 rfl (lv_at hl 1 rfl) ?_
      refine lv_iload_n hx hb dX1_secondsHeldFor_69 rfl (lv_at hl 2 rfl) ?_
      have hPc : va_P D zCl (bX3 ao1 cy So1) s.heap := hP.sub [11, 12, 13] rfl
      refine zc_r (va_runV (As := [.int i3]) (rest := [.int x5]) ⟨hx, hb, hml, hown, htB⟩ (c_X3_yardsHeldFor l D cy ao1 So1 i3 h) (cwV 1 htB (zgV zm_44 zm_46 zm_47 zm_28 zm_45) rfl rfl rfl hd_X3_yardsHeldFor ⟨Nat.le_of_ble_eq_true rfl, Nat.le_of_ble_eq_true rfl⟩) ⟨zR_blind, va_recv hK hP (ci := 3) (q0 := 11) rfl rfl, zR_pre hPc hK hN⟩ rfl rfl hl.1 rfl (lv_room (Nat.le_of_ble_eq_true rfl)) dX1_secondsHeldFor_70 ⟨Nat.zero_le _, Nat.zero_le _⟩) (fun r70 h => ?_)
      have hPc : va_P D zCl ([] : va_W) s.heap := hP.sub [] rfl
      refine zc_r (va_runSN (As := [.int x5, .int r70]) (rest := []) ⟨hx, hb, hml, hown, htB⟩ (c_X4_divideUp l D cy  x5 r70 h) ⟨va_cnB 2 htB (zgN zm_66) rfl rfl rfl (hN _ zm_65) (htB _ zm_4) hd_X4_divideUp.2 ⟨Nat.le_of_ble_eq_true rfl, Nat.le_of_ble_eq_true rfl⟩, htB _ zm_67, trivial⟩ ⟨zR_blind, zR_pre hPc hK hN⟩ rfl rfl hl.1 rfl (lv_room (Nat.le_of_ble_eq_true rfl)) dX1_secondsHeldFor_73 ⟨Nat.zero_le _, Nat.zero_le _⟩) (fun r73 h => ?_)
      exact W.iret (v := r73) hx hb hr (fun t ht hW => ⟨_, rfl, h, ht⟩) (fun q hq => by cases hq) dX1_secondsHeldFor_76
    · replace h := And.right h c61
      refine lv_iconst (v := (0 : Int32)) hx hb dX1_secondsHeldFor_64 (by decide) ?_
      exact W.iret (v := (0 : Int32)) hx hb hr (fun t ht hW => ⟨_, rfl, h, ht⟩) (fun q hq => by cases hq) dX1_secondsHeldFor_65
  refine lv_aload_n hx hb dX1_secondsHeldFor_0 rfl (lv_at hl 0 rfl) ?_
  refine va_get (D := D) (ci := 1) (v := .ref (ah 2)) (C := RX1) (T := TX1) (N := 11) hx hb htB ziX1 hown hK hP 0 rfl rfl 2 (by decide) (htB _ zm_22) (fun _ h9 => h9) rfl dX1_secondsHeldFor_1 ?_
  refine lv_iload_n hx hb dX1_secondsHeldFor_4 rfl (lv_at hl 2 rfl) ?_
  have hPc : va_P D zCl [((ah 2), .inl (cy, 8, .inl (S 2)))] s.heap := hP.sub [3] rfl
  refine zc_r (va_runSN (As := [.ref (ah 2), .int i2]) (rest := []) ⟨hx, hb, hml, hown, htB⟩ (c_X4_at l D cy (ah 2) 8 (S 2) i2 h) ⟨va_cnB 2 htB (zgN zm_13) rfl rfl rfl (hN _ zm_19) (htB _ zm_4) hd_X4_at.2 ⟨Nat.le_of_ble_eq_true rfl, Nat.le_of_ble_eq_true rfl⟩, htB _ zm_14, trivial⟩ ⟨zR_blind, zR_pre hPc hK hN⟩ rfl rfl hl.1 rfl (lv_room (Nat.le_of_ble_eq_true rfl)) dX1_secondsHeldFor_5 ⟨Nat.zero_le _, Nat.zero_le _⟩) (fun r5 h => ?_)
  refine lv_istore (lv' := [(4, .int r5), (0, .ref (ah 99)), (1, .ref (ao1 99)), (2, .int i2), (3, .int i3)]) hx hb dX1_secondsHeldFor_8 hl (by decide) rfl (fun ls hl => ?_)
  refine lv_aload_n hx hb dX1_secondsHeldFor_10 rfl (lv_at hl 2 rfl) ?_
  refine lv_iload_n hx hb dX1_secondsHeldFor_11 rfl (lv_at hl 4 rfl) ?_
  refine lv_iload hx hb dX1_secondsHeldFor_12 (lv_at hl 0 rfl) ?_
  have hPc : va_P D zCl (bX3 ao1 cy So1) s.heap := hP.sub [11, 12, 13] rfl
  refine zc_r (va_runV (As := [.int i3, .int r5]) (rest := []) ⟨hx, hb, hml, hown, htB⟩ (c_X3_yardsToGo l D cy ao1 So1 i3 r5 h) (cwV 2 htB (zgV zm_68 zm_70 zm_71 zm_28 zm_69) rfl rfl rfl hd_X3_yardsToGo ⟨Nat.le_of_ble_eq_true rfl, Nat.le_of_ble_eq_true rfl⟩) ⟨zR_blind, va_recv hK hP (ci := 3) (q0 := 11) rfl rfl, zR_pre hPc hK hN⟩ rfl rfl hl.1 rfl (lv_room (Nat.le_of_ble_eq_true rfl)) dX1_secondsHeldFor_14 ⟨Nat.zero_le _, Nat.zero_le _⟩) (fun r14 h => ?_)
  refine lv_istore (lv' := [(5, .int r14), (4, .int r5), (0, .ref (ah 99)), (1, .ref (ao1 99)), (2, .int i2), (3, .int i3)]) hx hb dX1_secondsHeldFor_17 hl (by decide) rfl (fun ls hl => ?_)
  refine lv_aload_n hx hb dX1_secondsHeldFor_19 rfl (lv_at hl 3 rfl) ?_
  refine lv_iload_n hx hb dX1_secondsHeldFor_20 rfl (lv_at hl 5 rfl) ?_
  refine lv_iconst (v := (1 : Int32)) hx hb dX1_secondsHeldFor_21 (by decide) ?_
  have hPc : va_P D zCl (bX3 ao1 cy So1) s.heap := hP.sub [11, 12, 13] rfl
  refine zc_r (va_runV (As := [.int i3, .int (1 : Int32)]) (rest := []) ⟨hx, hb, hml, hown, htB⟩ (c_X3_of l D cy ao1 So1 i3 (1 : Int32) h) (cwV 2 htB (zgV zm_48 zm_33 zm_34 zm_28 zm_32) rfl rfl rfl hd_X3_of ⟨Nat.le_of_ble_eq_true rfl, Nat.le_of_ble_eq_true rfl⟩) ⟨zR_blind, va_recv hK hP (ci := 3) (q0 := 11) rfl rfl, zR_pre hPc hK hN⟩ rfl rfl hl.1 rfl (lv_room (Nat.le_of_ble_eq_true rfl)) dX1_secondsHeldFor_22 ⟨Nat.zero_le _, Nat.zero_le _⟩) (fun r22 h => ?_)
  refine lv_iload hx hb dX1_secondsHeldFor_25 (lv_at hl 1 rfl) ?_
  refine lv_icmp_gt (tgt := 35) hx hb dX1_secondsHeldFor_27 (by decide) (fun c27 => ?_) (fun c27 => ?_)
  · replace h := And.left h c27
    refine lv_iconst (v := (0 : Int32)) hx hb dX1_secondsHeldFor_35 (by decide) ?_
    exact W.iret (v := (0 : Int32)) hx hb hr (fun t ht hW => ⟨_, rfl, h, ht⟩) (fun q hq => by cases hq) dX1_secondsHeldFor_36
  · replace h := And.right h c27
    refine lv_iload hx hb dX1_secondsHeldFor_30 (lv_at hl 0 rfl) ?_
    refine lv_if_gt (tgt := 37) hx hb dX1_secondsHeldFor_32 (by decide) (fun c32 => ?_) (fun c32 => ?_)
    · replace h := And.left h c32
      refine lv_iload hx hb dX1_secondsHeldFor_37 (lv_at hl 0 rfl) ?_
      refine lv_aload_n hx hb dX1_secondsHeldFor_39 rfl (lv_at hl 3 rfl) ?_
      refine lv_iload_n hx hb dX1_secondsHeldFor_40 rfl (lv_at hl 4 rfl) ?_
      refine lv_iload_n hx hb dX1_secondsHeldFor_41 rfl (lv_at hl 5 rfl) ?_
      refine lv_aload_n hx hb dX1_secondsHeldFor_42 rfl (lv_at hl 2 rfl) ?_
      refine va_get (D := D) (ci := 1) (v := .ref (ah 5)) (C := RX1) (T := TX1) (N := 11) hx hb htB ziX1 hown hK hP 0 rfl rfl 5 (by decide) (htB _ zm_43) (fun _ h9 => h9) rfl dX1_secondsHeldFor_43 ?_
      refine lv_iload_n hx hb dX1_secondsHeldFor_46 rfl (lv_at hl 4 rfl) ?_
      have hPc : va_P D zCl [((ah 5), .inl (cy, 8, .inl (S 5)))] s.heap := hP.sub [6] rfl
      refine zc_r (va_runSN (As := [.ref (ah 5), .int i2]) (rest := [.int i3, .int i2, .ref (ao1 99), .int r14]) ⟨hx, hb, hml, hown, htB⟩ (c_X4_at l D cy (ah 5) 8 (S 5) i2 h) ⟨va_cnB 2 htB (zgN zm_13) rfl rfl rfl (hN _ zm_19) (htB _ zm_4) hd_X4_at.2 ⟨Nat.le_of_ble_eq_true rfl, Nat.le_of_ble_eq_true rfl⟩, htB _ zm_14, trivial⟩ ⟨zR_blind, zR_pre hPc hK hN⟩ rfl rfl hl.1 rfl (lv_room (Nat.le_of_ble_eq_true rfl)) dX1_secondsHeldFor_47 ⟨Nat.zero_le _, Nat.zero_le _⟩) (fun r47 h => ?_)
      refine lv_if_lt (tgt := 57) hx hb dX1_secondsHeldFor_50 (by decide) (fun c50 => ?_) (fun c50 => ?_)
      · replace h := And.left h c50
        refine lv_iconst (v := (0 : Int32)) hx hb dX1_secondsHeldFor_57 (by decide) ?_
        exact L58 r14 r14 i2 i3 (0 : Int32) h ls (lv_sub hl [2, 3, 5, 0] rfl)
      · replace h := And.right h c50
        refine lv_iconst (v := (1 : Int32)) hx hb dX1_secondsHeldFor_53 (by decide) ?_
        refine lv_goto (tgt := 58) hx hb dX1_secondsHeldFor_54 (by decide) ?_
        exact L58 r14 r14 i2 i3 (1 : Int32) h ls (lv_sub hl [2, 3, 5, 0] rfl)
    · replace h := And.right h c32
      refine lv_iconst (v := (0 : Int32)) hx hb dX1_secondsHeldFor_35 (by decide) ?_
      exact W.iret (v := (0 : Int32)) hx hb hr (fun t ht hW => ⟨_, rfl, h, ht⟩) (fun q hq => by cases hq) dX1_secondsHeldFor_36
set_option maxHeartbeats 4000000 in
set_option maxRecDepth 100000 in
theorem c_X3_thereFrom (l : Launch) (D : va_G) (cy : ClassId) (ah : Nat → Nat) (S : zT) (i1 : Int32) {Q : Int32 → Prop} (h : wp_X3_thereFrom S i1 Q) : Met l yX3_thereFrom w_X3_thereFrom rm_X3_thereFrom (va_Pc [.ref (ah 99), .int i1] (zR D cy (bX3 ah cy S))) (vp_Si Q) 0 0 (fun _ => False) := by
  refine zOf_r (by decide) (Nat.le_of_ble_eq_true rfl) ?_
  intro p e s m below meth c ls hx hb hr hml hown htB hlocks hK hN hP hl
  replace hl : lv_has ls 2 [(0, .ref (ah 99)), (1, .int i1)] := hl
  refine lv_aload_n hx hb dX3_thereFrom_0 rfl (lv_at hl 0 rfl) ?_
  refine lv_iload_n hx hb dX3_thereFrom_1 rfl (lv_at hl 1 rfl) ?_
  refine lv_iconst (v := (1 : Int32)) hx hb dX3_thereFrom_2 (by decide) ?_
  refine zc_r (va_runV (As := [.int i1, .int (1 : Int32)]) (rest := []) ⟨hx, hb, hml, hown, htB⟩ (c_X3_of l D cy ah S i1 (1 : Int32) h) (cwV 2 htB (zgV zm_31 zm_33 zm_34 zm_28 zm_32) rfl rfl rfl hd_X3_of ⟨Nat.le_of_ble_eq_true rfl, Nat.le_of_ble_eq_true rfl⟩) ⟨zR_blind, va_recv hK hP (ci := 3) (q0 := 0) rfl rfl, zR_pre hP hK hN⟩ rfl rfl hl.1 rfl (lv_room (Nat.le_of_ble_eq_true rfl)) dX3_thereFrom_3 ⟨Nat.zero_le _, Nat.zero_le _⟩) (fun r3 h => ?_)
  refine lv_aload_n hx hb dX3_thereFrom_6 rfl (lv_at hl 0 rfl) ?_
  refine lv_iload_n hx hb dX3_thereFrom_7 rfl (lv_at hl 1 rfl) ?_
  refine lv_iconst (v := (2 : Int32)) hx hb dX3_thereFrom_8 (by decide) ?_
  refine zc_r (va_runV (As := [.int i1, .int (2 : Int32)]) (rest := [.int r3]) ⟨hx, hb, hml, hown, htB⟩ (c_X3_of l D cy ah S i1 (2 : Int32) h) (cwV 2 htB (zgV zm_31 zm_33 zm_34 zm_28 zm_32) rfl rfl rfl hd_X3_of ⟨Nat.le_of_ble_eq_true rfl, Nat.le_of_ble_eq_true rfl⟩) ⟨zR_blind, va_recv hK hP (ci := 3) (q0 := 0) rfl rfl, zR_pre hP hK hN⟩ rfl rfl hl.1 rfl (lv_room (Nat.le_of_ble_eq_true rfl)) dX3_thereFrom_9 ⟨Nat.zero_le _, Nat.zero_le _⟩) (fun r9 h => ?_)
  refine lv_aload_n hx hb dX3_thereFrom_12 rfl (lv_at hl 0 rfl) ?_
  refine lv_iload_n hx hb dX3_thereFrom_13 rfl (lv_at hl 1 rfl) ?_
  refine lv_iconst (v := (3 : Int32)) hx hb dX3_thereFrom_14 (by decide) ?_
  refine zc_r (va_runV (As := [.int i1, .int (3 : Int32)]) (rest := [.int r9, .int r3]) ⟨hx, hb, hml, hown, htB⟩ (c_X3_of l D cy ah S i1 (3 : Int32) h) (cwV 2 htB (zgV zm_31 zm_33 zm_34 zm_28 zm_32) rfl rfl rfl hd_X3_of ⟨Nat.le_of_ble_eq_true rfl, Nat.le_of_ble_eq_true rfl⟩) ⟨zR_blind, va_recv hK hP (ci := 3) (q0 := 0) rfl rfl, zR_pre hP hK hN⟩ rfl rfl hl.1 rfl (lv_room (Nat.le_of_ble_eq_true rfl)) dX3_thereFrom_15 ⟨Nat.zero_le _, Nat.zero_le _⟩) (fun r15 h => ?_)
  have hPc : va_P D zCl ([] : va_W) s.heap := hP.sub [] rfl
  refine zc_r (va_runSN (As := [.int r9, .int r15]) (rest := [.int r3]) ⟨hx, hb, hml, hown, htB⟩ (c_X4_divideUp l D cy  r9 r15 h) ⟨va_cnB 2 htB (zgN zm_66) rfl rfl rfl (hN _ zm_72) (htB _ zm_4) hd_X4_divideUp.2 ⟨Nat.le_of_ble_eq_true rfl, Nat.le_of_ble_eq_true rfl⟩, htB _ zm_67, trivial⟩ ⟨zR_blind, zR_pre hPc hK hN⟩ rfl rfl hl.1 rfl (lv_room (Nat.le_of_ble_eq_true rfl)) dX3_thereFrom_18 ⟨Nat.zero_le _, Nat.zero_le _⟩) (fun r18 h => ?_)
  refine lv_iadd hx hb dX3_thereFrom_21 ?_
  exact W.iret (v := (r3 + r18)) hx hb hr (fun t ht hW => ⟨_, rfl, h, ht⟩) (fun q hq => by cases hq) dX3_thereFrom_22
set_option maxHeartbeats 4000000 in
set_option maxRecDepth 100000 in
theorem c_X1_run (l : Launch) (D : va_G) (cy : ClassId) (ah : Nat → Nat) (ao1 : Nat → Nat) (sz : Nat) (So1 : zT) (S : zT) {Q : zT → Prop} (h : wp_X1_run So1 S Q) : Met l yX1_run w_X1_run rm_X1_run (va_Pc [.ref (ah 99), .ref (ao1 99)] (zM D cy ((bX1 ah cy S) ++ ((bX3 ao1 cy So1))) sz)) (va_Qv (S := zT) (fun (u : zT) => Q u) (fun u t => va_P D zCl ((fun (u : zT) => ((bX1 ah cy u) ++ ((bX3 ao1 cy So1)))) u) t.heap) (va_A ((bX1 ah cy S) ++ ((bX3 ao1 cy So1))) sz)) 0 0 (va_A ((bX1 ah cy S) ++ ((bX3 ao1 cy So1))) sz) := by
  refine zOf_v (by decide) (Nat.le_of_ble_eq_true rfl) ?_
  intro p e s m below meth c ls A H locs hx hb hr hml hown htB hlocks hK hN hP hD hS hA hl
  replace hl : lv_has ls 7 [(0, .ref (ah 99)), (1, .ref (ao1 99))] := hl
  have L57 : ∀ (k57 : Nat) (x2 : Int32) (x3 : Int32) (x4 : Int32) (S : zT), wpl_X1_run_57 So1 Q k57 x2 x3 x4 S → ∀ (H : Heap) (locs : List Loc), va_P D zCl ((bX1 ah cy S) ++ ((bX3 ao1 cy So1))) H → va_D A ((bX1 ah cy S) ++ ((bX3 ao1 cy So1))) → va_S A s.heap H locs → ∀ ls : Array Slot, lv_has ls 7 [(0, .ref (ah 99)), (1, .ref (ao1 99)), (2, .int x2), (3, .int x3), (4, .int x4)] → W p l e rm_X1_run s m ([.ref (ah 99), .ref (ao1 99)] : List Value).toArray below meth c H locs 0 0 (MQ below (va_Qv (S := zT) (fun (u : zT) => Q u) (fun u t => va_P D zCl ((fun (u : zT) => ((bX1 ah cy u) ++ ((bX3 ao1 cy So1)))) u) t.heap) A) ([.ref (ah 99), .ref (ao1 99)] : List Value).toArray s 0 0 A) (F0 m 57 ls []) := by
    intro k57
    induction k57 with
    | zero => exact fun x2 x3 x4 S h => False.elim h
    | succ k57 ih57 =>
      have L119 : ∀ (x3 : Int32) (x4 : Int32) (x5 : Int32) (t0 : Int32) (S : zT), wpb_X1_run_119 So1 Q (wpl_X1_run_57 So1 Q k57) x3 x4 x5 t0 S → ∀ (H : Heap) (locs : List Loc), va_P D zCl ((bX1 ah cy S) ++ ((bX3 ao1 cy So1))) H → va_D A ((bX1 ah cy S) ++ ((bX3 ao1 cy So1))) → va_S A s.heap H locs → ∀ ls : Array Slot, lv_has ls 7 [(0, .ref (ah 99)), (1, .ref (ao1 99)), (3, .int x3), (4, .int x4), (5, .int x5)] → W p l e rm_X1_run s m ([.ref (ah 99), .ref (ao1 99)] : List Value).toArray below meth c H locs 0 0 (MQ below (va_Qv (S := zT) (fun (u : zT) => Q u) (fun u t => va_P D zCl ((fun (u : zT) => ((bX1 ah cy u) ++ ((bX3 ao1 cy So1)))) u) t.heap) A) ([.ref (ah 99), .ref (ao1 99)] : List Value).toArray s 0 0 A) (F0 m 119 ls [.int t0]) := by
        intro x3 x4 x5 t0 S h H locs hP hD hS ls hl
        refine lv_istore (lv' := [(6, .int t0), (0, .ref (ah 99)), (1, .ref (ao1 99)), (3, .int x3), (4, .int x4), (5, .int x5)]) hx hb dX1_run_119 hl (by decide) rfl (fun ls hl => ?_)
        refine lv_aload_n hx hb dX1_run_121 rfl (lv_at hl 1 rfl) ?_
        refine va_get (D := D) (ci := 1) (v := .ref (ah 4)) (C := RX1) (T := TX1) (N := 11) hx hb htB ziX1 hown hK hP 0 rfl rfl 4 (by decide) (htB _ zm_23) (fun _ h9 => h9) rfl dX1_run_122 ?_
        refine lv_iload hx hb dX1_run_125 (lv_at hl 5 rfl) ?_
        refine lv_iload hx hb dX1_run_127 (lv_at hl 0 rfl) ?_
        have hPc : va_P D zCl [((ah 4), .inl (cy, 8, .inl (S 4)))] H := hP.sub [5] rfl
        have hDc : va_D A [((ah 4), .inl (cy, 8, .inl (S 4)))] := hD.sub [5] (by decide) rfl
        refine zc_v (ws' := fun u => ((bX1 ah cy (va_up S 4 u)) ++ ((bX3 ao1 cy So1)))) (va_runSN (As := [.ref (ah 4), .int x5, .int t0]) (rest := []) ⟨hx, hb, hml, hown, htB⟩ (c_X4_put l D cy (ah 4) H.size 8 x5 t0 (S 4) h) ⟨va_cnB 3 htB (zgN zm_3) rfl rfl rfl (hN _ zm_39) (htB _ zm_4) hd_X4_put.2 ⟨Nat.le_of_ble_eq_true rfl, Nat.le_of_ble_eq_true rfl⟩, htB _ zm_5, trivial⟩ ⟨zM_blind, zM_pre hPc hK hN hDc⟩ rfl rfl hl.1 rfl (lv_room (Nat.le_of_ble_eq_true rfl)) dX1_run_129 ⟨Nat.zero_le _, Nat.zero_le _⟩) hS hA hP hD [5] [0, 1, 2, 3, 4, 6, 7, 8, 9, 10, 11, 12, 13] [0, 1, 2, 3, 4, 13, 5, 6, 7, 8, 9, 10, 11, 12] (by decide) rfl (by decide) (by decide) rfl (fun u => rfl) (fun u => rfl) (fun u => rfl) (fun u H locs h hP hD hS => ?_)
        obtain ⟨gf0_129, eu⟩ : ∃ z, z = u := ⟨_, rfl⟩
        subst eu
        replace hP : va_P D zCl ((bX1 ah cy (va_up S 4 gf0_129)) ++ ((bX3 ao1 cy So1))) H := hP
        replace hD : va_D A ((bX1 ah cy (va_up S 4 gf0_129)) ++ ((bX3 ao1 cy So1))) := hD
        obtain ⟨S_129, eS_129⟩ : ∃ z : zT, z = (va_up S 4 gf0_129) := ⟨_, rfl⟩
        replace h := h S_129 eS_129
        replace hP : va_P D zCl ((bX1 ah cy S_129) ++ ((bX3 ao1 cy So1))) H := by rw [eS_129]; exact hP
        replace hD : va_D A ((bX1 ah cy S_129) ++ ((bX3 ao1 cy So1))) := by rw [eS_129]; exact hD
        refine lv_aload_n hx hb dX1_run_132 rfl (lv_at hl 1 rfl) ?_
        refine va_get (D := D) (ci := 1) (v := .ref (ah 7)) (C := RX1) (T := TX1) (N := 11) hx hb htB ziX1 hown hK hP 0 rfl rfl 7 (by decide) (htB _ zm_73) (fun _ h9 => h9) rfl dX1_run_133 ?_
        refine lv_iload hx hb dX1_run_136 (lv_at hl 5 rfl) ?_
        refine lv_aload_n hx hb dX1_run_138 rfl (lv_at hl 2 rfl) ?_
        refine lv_iload hx hb dX1_run_139 (lv_at hl 5 rfl) ?_
        refine lv_bipush (v := (6 : Int32)) hx hb dX1_run_141 (by decide) ?_
        have hPc : va_P D zCl (bX3 ao1 cy So1) H := hP.sub [11, 12, 13] rfl
        refine zc_r (va_runV (As := [.int x5, .int (6 : Int32)]) (rest := [.int x5, .ref (ah 7)]) ⟨hx, hb, hml, hown, htB⟩ (c_X3_of l D cy ao1 So1 x5 (6 : Int32) h) (cwV 2 htB (zgV zm_48 zm_33 zm_34 zm_28 zm_32) rfl rfl rfl hd_X3_of ⟨Nat.le_of_ble_eq_true rfl, Nat.le_of_ble_eq_true rfl⟩) ⟨zR_blind, va_recv hK hP (ci := 3) (q0 := 11) rfl rfl, zR_pre hPc hK hN⟩ rfl rfl hl.1 rfl (lv_room (Nat.le_of_ble_eq_true rfl)) dX1_run_143 ⟨Nat.zero_le _, Nat.zero_le _⟩) (fun r143 h => ?_)
        refine lv_aload_n hx hb dX1_run_146 rfl (lv_at hl 1 rfl) ?_
        refine va_get (D := D) (ci := 1) (v := .ref (ah 3)) (C := RX1) (T := TX1) (N := 11) hx hb htB ziX1 hown hK hP 0 rfl rfl 3 (by decide) (htB _ zm_42) (fun _ h9 => h9) rfl dX1_run_147 ?_
        refine lv_iload hx hb dX1_run_150 (lv_at hl 5 rfl) ?_
        have hPc : va_P D zCl [((ah 3), .inl (cy, 8, .inl (S_129 3)))] H := hP.sub [4] rfl
        refine zc_r (va_runSN (As := [.ref (ah 3), .int x5]) (rest := [.int r143, .int x5, .ref (ah 7)]) ⟨hx, hb, hml, hown, htB⟩ (c_X4_at l D cy (ah 3) 8 (S_129 3) x5 h) ⟨va_cnB 2 htB (zgN zm_13) rfl rfl rfl (hN _ zm_19) (htB _ zm_4) hd_X4_at.2 ⟨Nat.le_of_ble_eq_true rfl, Nat.le_of_ble_eq_true rfl⟩, htB _ zm_14, trivial⟩ ⟨zR_blind, zR_pre hPc hK hN⟩ rfl rfl hl.1 rfl (lv_room (Nat.le_of_ble_eq_true rfl)) dX1_run_152 ⟨Nat.zero_le _, Nat.zero_le _⟩) (fun r152 h => ?_)
        refine lv_iload hx hb dX1_run_155 (lv_at hl 0 rfl) ?_
        refine lv_iadd hx hb dX1_run_157 ?_
        refine lv_imul hx hb dX1_run_158 ?_
        refine lv_aload_n hx hb dX1_run_159 rfl (lv_at hl 1 rfl) ?_
        refine va_get (D := D) (ci := 1) (v := .ref (ah 6)) (C := RX1) (T := TX1) (N := 11) hx hb htB ziX1 hown hK hP 0 rfl rfl 6 (by decide) (htB _ zm_40) (fun _ h9 => h9) rfl dX1_run_160 ?_
        refine lv_iload hx hb dX1_run_163 (lv_at hl 5 rfl) ?_
        have hPc : va_P D zCl [((ah 6), .inl (cy, 8, .inl (S_129 6)))] H := hP.sub [7] rfl
        refine zc_r (va_runSN (As := [.ref (ah 6), .int x5]) (rest := [.int (r143 * (r152 + t0)), .int x5, .ref (ah 7)]) ⟨hx, hb, hml, hown, htB⟩ (c_X4_at l D cy (ah 6) 8 (S_129 6) x5 h) ⟨va_cnB 2 htB (zgN zm_13) rfl rfl rfl (hN _ zm_19) (htB _ zm_4) hd_X4_at.2 ⟨Nat.le_of_ble_eq_true rfl, Nat.le_of_ble_eq_true rfl⟩, htB _ zm_14, trivial⟩ ⟨zR_blind, zR_pre hPc hK hN⟩ rfl rfl hl.1 rfl (lv_room (Nat.le_of_ble_eq_true rfl)) dX1_run_165 ⟨Nat.zero_le _, Nat.zero_le _⟩) (fun r165 h => ?_)
        refine lv_iadd hx hb dX1_run_168 ?_
        have hPc : va_P D zCl [((ah 7), .inl (cy, 8, .inl (S_129 7)))] H := hP.sub [8] rfl
        have hDc : va_D A [((ah 7), .inl (cy, 8, .inl (S_129 7)))] := hD.sub [8] (by decide) rfl
        refine zc_v (ws' := fun u => ((bX1 ah cy (va_up S_129 7 u)) ++ ((bX3 ao1 cy So1)))) (va_runSN (As := [.ref (ah 7), .int x5, .int ((r143 * (r152 + t0)) + r165)]) (rest := []) ⟨hx, hb, hml, hown, htB⟩ (c_X4_put l D cy (ah 7) H.size 8 x5 ((r143 * (r152 + t0)) + r165) (S_129 7) h) ⟨va_cnB 3 htB (zgN zm_3) rfl rfl rfl (hN _ zm_39) (htB _ zm_4) hd_X4_put.2 ⟨Nat.le_of_ble_eq_true rfl, Nat.le_of_ble_eq_true rfl⟩, htB _ zm_5, trivial⟩ ⟨zM_blind, zM_pre hPc hK hN hDc⟩ rfl rfl hl.1 rfl (lv_room (Nat.le_of_ble_eq_true rfl)) dX1_run_169 ⟨Nat.zero_le _, Nat.zero_le _⟩) hS hA hP hD [8] [0, 1, 2, 3, 4, 5, 6, 7, 9, 10, 11, 12, 13] [0, 1, 2, 3, 4, 5, 6, 7, 13, 8, 9, 10, 11, 12] (by decide) rfl (by decide) (by decide) rfl (fun u => rfl) (fun u => rfl) (fun u => rfl) (fun u H locs h hP hD hS => ?_)
        obtain ⟨gf0_169, eu⟩ : ∃ z, z = u := ⟨_, rfl⟩
        subst eu
        replace hP : va_P D zCl ((bX1 ah cy (va_up S_129 7 gf0_169)) ++ ((bX3 ao1 cy So1))) H := hP
        replace hD : va_D A ((bX1 ah cy (va_up S_129 7 gf0_169)) ++ ((bX3 ao1 cy So1))) := hD
        obtain ⟨S_169, eS_169⟩ : ∃ z : zT, z = (va_up S_129 7 gf0_169) := ⟨_, rfl⟩
        replace h := h S_169 eS_169
        replace hP : va_P D zCl ((bX1 ah cy S_169) ++ ((bX3 ao1 cy So1))) H := by rw [eS_169]; exact hP
        replace hD : va_D A ((bX1 ah cy S_169) ++ ((bX3 ao1 cy So1))) := by rw [eS_169]; exact hD
        refine lv_iload hx hb dX1_run_172 (lv_at hl 5 rfl) ?_
        refine lv_istore_n (lv' := [(2, .int x5), (6, .int t0), (0, .ref (ah 99)), (1, .ref (ao1 99)), (3, .int x3), (4, .int x4), (5, .int x5)]) hx hb dX1_run_174 rfl hl (by decide) rfl (fun ls hl => ?_)
        obtain ⟨y175, ey175⟩ : ∃ z : Int32, z = (x4 + (1 : Int32)) := ⟨_, rfl⟩
        replace h := h y175 ey175
        refine lv_iinc (v := y175) (lv' := [(4, .int y175), (2, .int x5), (6, .int t0), (0, .ref (ah 99)), (1, .ref (ao1 99)), (3, .int x3), (5, .int x5)]) hx hb dX1_run_175 hl (k := 5) rfl (by rw [ey175]; rfl) (by decide) rfl (fun ls hl => ?_)
        refine lv_goto (tgt := 57) hx hb dX1_run_178 (by decide) ?_
        exact ih57 x5 x3 y175 S_169 h H locs hP hD hS ls (lv_sub hl [3, 4, 1, 5, 0] rfl)
      intro x2 x3 x4 S h H locs hP hD hS ls hl
      refine lv_iload hx hb dX1_run_57 (lv_at hl 4 rfl) ?_
      refine lv_aload_n hx hb dX1_run_59 rfl (lv_at hl 0 rfl) ?_
      refine va_get (D := D) (ci := 1) (v := .int (S 10 0)) (C := RX1) (T := TX1) (N := 11) hx hb htB ziX1 hown hK hP 0 rfl rfl 10 (by decide) (htB _ zm_21) (fun _ h9 => h9) rfl dX1_run_60 ?_
      refine lv_icmp_ge (tgt := 181) hx hb dX1_run_63 (by decide) (fun c63 => ?_) (fun c63 => ?_)
      · replace h := And.left h c63
        exact W.vret hx hb hr (fun t ht hW => ⟨⟨S, rfl, h, zP_h ht hP⟩, hS.F ht⟩) hS.2.2 dX1_run_181
      · replace h := And.right h c63
        refine lv_iload_n hx hb dX1_run_66 rfl (lv_at hl 3 rfl) ?_
        refine lv_istore (lv' := [(5, .int x3), (0, .ref (ah 99)), (1, .ref (ao1 99)), (2, .int x2), (3, .int x3), (4, .int x4)]) hx hb dX1_run_67 hl (by decide) rfl (fun ls hl => ?_)
        refine lv_aload_n hx hb dX1_run_69 rfl (lv_at hl 1 rfl) ?_
        refine lv_aload_n hx hb dX1_run_70 rfl (lv_at hl 2 rfl) ?_
        refine lv_iload_n hx hb dX1_run_71 rfl (lv_at hl 3 rfl) ?_
        refine lv_iload hx hb dX1_run_72 (lv_at hl 0 rfl) ?_
        refine zc_vf (ws' := fun u => ((bX1 ah cy u) ++ ((bX3 ao1 cy So1)))) (va_runV (As := [.ref (ao1 99), .int x2, .int x3]) (rest := []) ⟨hx, hb, hml, hown, htB⟩ (c_X1_comeThrough l D cy ah ao1 H.size So1 x2 x3 S h) (cwV 3 htB (zgV zm_74 zm_76 zm_77 zm_57 zm_75) rfl rfl rfl hd_X1_comeThrough ⟨Nat.le_of_ble_eq_true rfl, Nat.le_of_ble_eq_true rfl⟩) ⟨zM_blind, va_recv hK hP (ci := 1) (q0 := 0) rfl rfl, zM_pre hP hK hN hD⟩ rfl rfl hl.1 rfl (lv_room (Nat.le_of_ble_eq_true rfl)) dX1_run_74 ⟨Nat.zero_le _, Nat.zero_le _⟩) hS hA hP hD (fun u => rfl) (fun u => rfl) (fun u H locs h hP hD hS => ?_)
        obtain ⟨S_74, eu⟩ : ∃ z, z = u := ⟨_, rfl⟩
        subst eu
        replace hP : va_P D zCl ((bX1 ah cy S_74) ++ ((bX3 ao1 cy So1))) H := hP
        replace hD : va_D A ((bX1 ah cy S_74) ++ ((bX3 ao1 cy So1))) := hD
        refine lv_aload_n hx hb dX1_run_77 rfl (lv_at hl 1 rfl) ?_
        refine va_get (D := D) (ci := 1) (v := .ref (ah 0)) (C := RX1) (T := TX1) (N := 11) hx hb htB ziX1 hown hK hP 0 rfl rfl 0 (by decide) (htB _ zm_78) (fun _ h9 => h9) rfl dX1_run_78 ?_
        refine lv_iload hx hb dX1_run_81 (lv_at hl 5 rfl) ?_
        refine lv_iload hx hb dX1_run_83 (lv_at hl 0 rfl) ?_
        have hPc : va_P D zCl [((ah 0), .inl (cy, 8, .inl (S_74 0)))] H := hP.sub [1] rfl
        have hDc : va_D A [((ah 0), .inl (cy, 8, .inl (S_74 0)))] := hD.sub [1] (by decide) rfl
        refine zc_v (ws' := fun u => ((bX1 ah cy (va_up S_74 0 u)) ++ ((bX3 ao1 cy So1)))) (va_runSN (As := [.ref (ah 0), .int x4, .int x3]) (rest := []) ⟨hx, hb, hml, hown, htB⟩ (c_X4_put l D cy (ah 0) H.size 8 x4 x3 (S_74 0) h) ⟨va_cnB 3 htB (zgN zm_3) rfl rfl rfl (hN _ zm_39) (htB _ zm_4) hd_X4_put.2 ⟨Nat.le_of_ble_eq_true rfl, Nat.le_of_ble_eq_true rfl⟩, htB _ zm_5, trivial⟩ ⟨zM_blind, zM_pre hPc hK hN hDc⟩ rfl rfl hl.1 rfl (lv_room (Nat.le_of_ble_eq_true rfl)) dX1_run_85 ⟨Nat.zero_le _, Nat.zero_le _⟩) hS hA hP hD [1] [0, 2, 3, 4, 5, 6, 7, 8, 9, 10, 11, 12, 13] [0, 13, 1, 2, 3, 4, 5, 6, 7, 8, 9, 10, 11, 12] (by decide) rfl (by decide) (by decide) rfl (fun u => rfl) (fun u => rfl) (fun u => rfl) (fun u H locs h hP hD hS => ?_)
        obtain ⟨gf0_85, eu⟩ : ∃ z, z = u := ⟨_, rfl⟩
        subst eu
        replace hP : va_P D zCl ((bX1 ah cy (va_up S_74 0 gf0_85)) ++ ((bX3 ao1 cy So1))) H := hP
        replace hD : va_D A ((bX1 ah cy (va_up S_74 0 gf0_85)) ++ ((bX3 ao1 cy So1))) := hD
        obtain ⟨S_85, eS_85⟩ : ∃ z : zT, z = (va_up S_74 0 gf0_85) := ⟨_, rfl⟩
        replace h := h S_85 eS_85
        replace hP : va_P D zCl ((bX1 ah cy S_85) ++ ((bX3 ao1 cy So1))) H := by rw [eS_85]; exact hP
        replace hD : va_D A ((bX1 ah cy S_85) ++ ((bX3 ao1 cy So1))) := by rw [eS_85]; exact hD
        refine lv_aload_n hx hb dX1_run_88 rfl (lv_at hl 1 rfl) ?_
        refine va_get (D := D) (ci := 1) (v := .ref (ah 9)) (C := RX1) (T := TX1) (N := 11) hx hb htB ziX1 hown hK hP 0 rfl rfl 9 (by decide) (htB _ zm_18) (fun _ h9 => h9) rfl dX1_run_89 ?_
        refine lv_iload hx hb dX1_run_92 (lv_at hl 0 rfl) ?_
        refine lv_iconst (v := (1 : Int32)) hx hb dX1_run_94 (by decide) ?_
        have hPc : va_P D zCl [((ah 9), .inl (cy, 8, .inl (S_85 9)))] H := hP.sub [10] rfl
        have hDc : va_D A [((ah 9), .inl (cy, 8, .inl (S_85 9)))] := hD.sub [10] (by decide) rfl
        refine zc_v (ws' := fun u => ((bX1 ah cy (va_up S_85 9 u)) ++ ((bX3 ao1 cy So1)))) (va_runSN (As := [.ref (ah 9), .int x3, .int (1 : Int32)]) (rest := []) ⟨hx, hb, hml, hown, htB⟩ (c_X4_put l D cy (ah 9) H.size 8 x3 (1 : Int32) (S_85 9) h) ⟨va_cnB 3 htB (zgN zm_3) rfl rfl rfl (hN _ zm_39) (htB _ zm_4) hd_X4_put.2 ⟨Nat.le_of_ble_eq_true rfl, Nat.le_of_ble_eq_true rfl⟩, htB _ zm_5, trivial⟩ ⟨zM_blind, zM_pre hPc hK hN hDc⟩ rfl rfl hl.1 rfl (lv_room (Nat.le_of_ble_eq_true rfl)) dX1_run_95 ⟨Nat.zero_le _, Nat.zero_le _⟩) hS hA hP hD [10] [0, 1, 2, 3, 4, 5, 6, 7, 8, 9, 11, 12, 13] [0, 1, 2, 3, 4, 5, 6, 7, 8, 9, 13, 10, 11, 12] (by decide) rfl (by decide) (by decide) rfl (fun u => rfl) (fun u => rfl) (fun u => rfl) (fun u H locs h hP hD hS => ?_)
        obtain ⟨gf0_95, eu⟩ : ∃ z, z = u := ⟨_, rfl⟩
        subst eu
        replace hP : va_P D zCl ((bX1 ah cy (va_up S_85 9 gf0_95)) ++ ((bX3 ao1 cy So1))) H := hP
        replace hD : va_D A ((bX1 ah cy (va_up S_85 9 gf0_95)) ++ ((bX3 ao1 cy So1))) := hD
        obtain ⟨S_95, eS_95⟩ : ∃ z : zT, z = (va_up S_85 9 gf0_95) := ⟨_, rfl⟩
        replace h := h S_95 eS_95
        replace hP : va_P D zCl ((bX1 ah cy S_95) ++ ((bX3 ao1 cy So1))) H := by rw [eS_95]; exact hP
        replace hD : va_D A ((bX1 ah cy S_95) ++ ((bX3 ao1 cy So1))) := by rw [eS_95]; exact hD
        refine lv_aload_n hx hb dX1_run_98 rfl (lv_at hl 1 rfl) ?_
        have hPc : va_P D zCl (bX1 ah cy S_95) H := hP.sub [0, 1, 2, 3, 4, 5, 6, 7, 8, 9, 10] rfl
        refine zc_r (va_runV (As := []) (rest := []) ⟨hx, hb, hml, hown, htB⟩ (c_X1_findNext l D cy ah S_95 h) (cwV 0 htB (zgV zm_79 zm_81 zm_82 zm_57 zm_80) rfl rfl rfl hd_X1_findNext ⟨Nat.le_of_ble_eq_true rfl, Nat.le_of_ble_eq_true rfl⟩) ⟨zR_blind, va_recv hK hP (ci := 1) (q0 := 0) rfl rfl, zR_pre hPc hK hN⟩ rfl rfl hl.1 rfl (lv_room (Nat.le_of_ble_eq_true rfl)) dX1_run_99 ⟨Nat.zero_le _, Nat.zero_le _⟩) (fun r99 h => ?_)
        refine lv_istore_n (lv' := [(3, .int r99), (5, .int x3), (0, .ref (ah 99)), (1, .ref (ao1 99)), (2, .int x2), (4, .int x4)]) hx hb dX1_run_102 rfl hl (by decide) rfl (fun ls hl => ?_)
        refine lv_iload_n hx hb dX1_run_103 rfl (lv_at hl 0 rfl) ?_
        refine lv_if_ge (tgt := 111) hx hb dX1_run_104 (by decide) (fun c104 => ?_) (fun c104 => ?_)
        · replace h := And.left h c104
          refine lv_aload_n hx hb dX1_run_111 rfl (lv_at hl 2 rfl) ?_
          refine lv_aload_n hx hb dX1_run_112 rfl (lv_at hl 3 rfl) ?_
          refine lv_iload hx hb dX1_run_113 (lv_at hl 1 rfl) ?_
          refine lv_iload_n hx hb dX1_run_115 rfl (lv_at hl 0 rfl) ?_
          refine zc_r (va_runV (As := [.ref (ao1 99), .int x3, .int r99]) (rest := []) ⟨hx, hb, hml, hown, htB⟩ (c_X1_secondsHeldFor l D cy ah ao1 S_95 So1 x3 r99 h) (cwV 3 htB (zgV zm_83 zm_85 zm_86 zm_57 zm_84) rfl rfl rfl hd_X1_secondsHeldFor ⟨Nat.le_of_ble_eq_true rfl, Nat.le_of_ble_eq_true rfl⟩) ⟨zR_blind, va_recv hK hP (ci := 1) (q0 := 0) rfl rfl, zR_pre hP hK hN⟩ rfl rfl hl.1 rfl (lv_room (Nat.le_of_ble_eq_true rfl)) dX1_run_116 ⟨Nat.zero_le _, Nat.zero_le _⟩) (fun r116 h => ?_)
          exact L119 r99 x4 x3 r116 S_95 h H locs hP hD hS ls (lv_sub hl [2, 3, 0, 5, 1] rfl)
        · replace h := And.right h c104
          refine lv_iconst (v := (0 : Int32)) hx hb dX1_run_107 (by decide) ?_
          refine lv_goto (tgt := 119) hx hb dX1_run_108 (by decide) ?_
          exact L119 r99 x4 x3 (0 : Int32) S_95 h H locs hP hD hS ls (lv_sub hl [2, 3, 0, 5, 1] rfl)
  have L46 : ∀ (S : zT), wpb_X1_run_46 So1 Q S → ∀ (H : Heap) (locs : List Loc), va_P D zCl ((bX1 ah cy S) ++ ((bX3 ao1 cy So1))) H → va_D A ((bX1 ah cy S) ++ ((bX3 ao1 cy So1))) → va_S A s.heap H locs → ∀ ls : Array Slot, lv_has ls 7 [(0, .ref (ah 99)), (1, .ref (ao1 99))] → W p l e rm_X1_run s m ([.ref (ah 99), .ref (ao1 99)] : List Value).toArray below meth c H locs 0 0 (MQ below (va_Qv (S := zT) (fun (u : zT) => Q u) (fun u t => va_P D zCl ((fun (u : zT) => ((bX1 ah cy u) ++ ((bX3 ao1 cy So1)))) u) t.heap) A) ([.ref (ah 99), .ref (ao1 99)] : List Value).toArray s 0 0 A) (F0 m 46 ls []) := by
    intro S h H locs hP hD hS ls hl
    refine lv_bipush (v := (-9 : Int32)) hx hb dX1_run_46 (by decide) ?_
    refine lv_istore_n (lv' := [(2, .int (-9 : Int32)), (0, .ref (ah 99)), (1, .ref (ao1 99))]) hx hb dX1_run_48 rfl hl (by decide) rfl (fun ls hl => ?_)
    refine lv_aload_n hx hb dX1_run_49 rfl (lv_at hl 1 rfl) ?_
    have hPc : va_P D zCl (bX1 ah cy S) H := hP.sub [0, 1, 2, 3, 4, 5, 6, 7, 8, 9, 10] rfl
    refine zc_r (va_runV (As := []) (rest := []) ⟨hx, hb, hml, hown, htB⟩ (c_X1_findNext l D cy ah S h) (cwV 0 htB (zgV zm_79 zm_81 zm_82 zm_57 zm_80) rfl rfl rfl hd_X1_findNext ⟨Nat.le_of_ble_eq_true rfl, Nat.le_of_ble_eq_true rfl⟩) ⟨zR_blind, va_recv hK hP (ci := 1) (q0 := 0) rfl rfl, zR_pre hPc hK hN⟩ rfl rfl hl.1 rfl (lv_room (Nat.le_of_ble_eq_true rfl)) dX1_run_50 ⟨Nat.zero_le _, Nat.zero_le _⟩) (fun r50 h => ?_)
    refine lv_istore_n (lv' := [(3, .int r50), (2, .int (-9 : Int32)), (0, .ref (ah 99)), (1, .ref (ao1 99))]) hx hb dX1_run_53 rfl hl (by decide) rfl (fun ls hl => ?_)
    refine lv_iconst (v := (0 : Int32)) hx hb dX1_run_54 (by decide) ?_
    refine lv_istore (lv' := [(4, .int (0 : Int32)), (3, .int r50), (2, .int (-9 : Int32)), (0, .ref (ah 99)), (1, .ref (ao1 99))]) hx hb dX1_run_55 hl (by decide) rfl (fun ls hl => ?_)
    obtain ⟨nn, h⟩ := h
    exact L57 nn (-9 : Int32) r50 (0 : Int32) S h H locs hP hD hS ls (lv_sub hl [3, 4, 2, 1, 0] rfl)
  have L10 : ∀ (k10 : Nat) (x2 : Int32) (S : zT), wpl_X1_run_10 So1 Q k10 x2 S → ∀ (H : Heap) (locs : List Loc), va_P D zCl ((bX1 ah cy S) ++ ((bX3 ao1 cy So1))) H → va_D A ((bX1 ah cy S) ++ ((bX3 ao1 cy So1))) → va_S A s.heap H locs → ∀ ls : Array Slot, lv_has ls 7 [(0, .ref (ah 99)), (1, .ref (ao1 99)), (2, .int x2)] → W p l e rm_X1_run s m ([.ref (ah 99), .ref (ao1 99)] : List Value).toArray below meth c H locs 0 0 (MQ below (va_Qv (S := zT) (fun (u : zT) => Q u) (fun u t => va_P D zCl ((fun (u : zT) => ((bX1 ah cy u) ++ ((bX3 ao1 cy So1)))) u) t.heap) A) ([.ref (ah 99), .ref (ao1 99)] : List Value).toArray s 0 0 A) (F0 m 10 ls []) := by
    intro k10
    induction k10 with
    | zero => exact fun x2 S h => False.elim h
    | succ k10 ih10 =>
      intro x2 S h H locs hP hD hS ls hl
      refine lv_iload_n hx hb dX1_run_10 rfl (lv_at hl 2 rfl) ?_
      refine lv_aload_n hx hb dX1_run_11 rfl (lv_at hl 0 rfl) ?_
      refine va_get (D := D) (ci := 1) (v := .int (S 10 0)) (C := RX1) (T := TX1) (N := 11) hx hb htB ziX1 hown hK hP 0 rfl rfl 10 (by decide) (htB _ zm_21) (fun _ h9 => h9) rfl dX1_run_12 ?_
      refine lv_icmp_ge (tgt := 46) hx hb dX1_run_15 (by decide) (fun c15 => ?_) (fun c15 => ?_)
      · replace h := And.left h c15
        exact L46 S h H locs hP hD hS ls (lv_sub hl [0, 1] rfl)
      · replace h := And.right h c15
        refine lv_aload_n hx hb dX1_run_18 rfl (lv_at hl 0 rfl) ?_
        refine va_get (D := D) (ci := 1) (v := .ref (ah 8)) (C := RX1) (T := TX1) (N := 11) hx hb htB ziX1 hown hK hP 0 rfl rfl 8 (by decide) (htB _ zm_20) (fun _ h9 => h9) rfl dX1_run_19 ?_
        refine lv_iload_n hx hb dX1_run_22 rfl (lv_at hl 2 rfl) ?_
        refine lv_aload_n hx hb dX1_run_23 rfl (lv_at hl 1 rfl) ?_
        refine lv_iload_n hx hb dX1_run_24 rfl (lv_at hl 2 rfl) ?_
        have hPc : va_P D zCl (bX3 ao1 cy So1) H := hP.sub [11, 12, 13] rfl
        refine zc_r (va_runV (As := [.int x2]) (rest := [.int x2, .ref (ah 8)]) ⟨hx, hb, hml, hown, htB⟩ (c_X3_thereFrom l D cy ao1 So1 x2 h) (cwV 1 htB (zgV zm_87 zm_89 zm_90 zm_28 zm_88) rfl rfl rfl hd_X3_thereFrom ⟨Nat.le_of_ble_eq_true rfl, Nat.le_of_ble_eq_true rfl⟩) ⟨zR_blind, va_recv hK hP (ci := 3) (q0 := 11) rfl rfl, zR_pre hPc hK hN⟩ rfl rfl hl.1 rfl (lv_room (Nat.le_of_ble_eq_true rfl)) dX1_run_25 ⟨Nat.zero_le _, Nat.zero_le _⟩) (fun r25 h => ?_)
        have hPc : va_P D zCl [((ah 8), .inl (cy, 8, .inl (S 8)))] H := hP.sub [9] rfl
        have hDc : va_D A [((ah 8), .inl (cy, 8, .inl (S 8)))] := hD.sub [9] (by decide) rfl
        refine zc_v (ws' := fun u => ((bX1 ah cy (va_up S 8 u)) ++ ((bX3 ao1 cy So1)))) (va_runSN (As := [.ref (ah 8), .int x2, .int r25]) (rest := []) ⟨hx, hb, hml, hown, htB⟩ (c_X4_put l D cy (ah 8) H.size 8 x2 r25 (S 8) h) ⟨va_cnB 3 htB (zgN zm_3) rfl rfl rfl (hN _ zm_39) (htB _ zm_4) hd_X4_put.2 ⟨Nat.le_of_ble_eq_true rfl, Nat.le_of_ble_eq_true rfl⟩, htB _ zm_5, trivial⟩ ⟨zM_blind, zM_pre hPc hK hN hDc⟩ rfl rfl hl.1 rfl (lv_room (Nat.le_of_ble_eq_true rfl)) dX1_run_28 ⟨Nat.zero_le _, Nat.zero_le _⟩) hS hA hP hD [9] [0, 1, 2, 3, 4, 5, 6, 7, 8, 10, 11, 12, 13] [0, 1, 2, 3, 4, 5, 6, 7, 8, 13, 9, 10, 11, 12] (by decide) rfl (by decide) (by decide) rfl (fun u => rfl) (fun u => rfl) (fun u => rfl) (fun u H locs h hP hD hS => ?_)
        obtain ⟨gf0_28, eu⟩ : ∃ z, z = u := ⟨_, rfl⟩
        subst eu
        replace hP : va_P D zCl ((bX1 ah cy (va_up S 8 gf0_28)) ++ ((bX3 ao1 cy So1))) H := hP
        replace hD : va_D A ((bX1 ah cy (va_up S 8 gf0_28)) ++ ((bX3 ao1 cy So1))) := hD
        obtain ⟨S_28, eS_28⟩ : ∃ z : zT, z = (va_up S 8 gf0_28) := ⟨_, rfl⟩
        replace h := h S_28 eS_28
        replace hP : va_P D zCl ((bX1 ah cy S_28) ++ ((bX3 ao1 cy So1))) H := by rw [eS_28]; exact hP
        replace hD : va_D A ((bX1 ah cy S_28) ++ ((bX3 ao1 cy So1))) := by rw [eS_28]; exact hD
        refine lv_aload_n hx hb dX1_run_31 rfl (lv_at hl 0 rfl) ?_
        refine va_get (D := D) (ci := 1) (v := .ref (ah 9)) (C := RX1) (T := TX1) (N := 11) hx hb htB ziX1 hown hK hP 0 rfl rfl 9 (by decide) (htB _ zm_18) (fun _ h9 => h9) rfl dX1_run_32 ?_
        refine lv_iload_n hx hb dX1_run_35 rfl (lv_at hl 2 rfl) ?_
        refine lv_iconst (v := (0 : Int32)) hx hb dX1_run_36 (by decide) ?_
        have hPc : va_P D zCl [((ah 9), .inl (cy, 8, .inl (S_28 9)))] H := hP.sub [10] rfl
        have hDc : va_D A [((ah 9), .inl (cy, 8, .inl (S_28 9)))] := hD.sub [10] (by decide) rfl
        refine zc_v (ws' := fun u => ((bX1 ah cy (va_up S_28 9 u)) ++ ((bX3 ao1 cy So1)))) (va_runSN (As := [.ref (ah 9), .int x2, .int (0 : Int32)]) (rest := []) ⟨hx, hb, hml, hown, htB⟩ (c_X4_put l D cy (ah 9) H.size 8 x2 (0 : Int32) (S_28 9) h) ⟨va_cnB 3 htB (zgN zm_3) rfl rfl rfl (hN _ zm_39) (htB _ zm_4) hd_X4_put.2 ⟨Nat.le_of_ble_eq_true rfl, Nat.le_of_ble_eq_true rfl⟩, htB _ zm_5, trivial⟩ ⟨zM_blind, zM_pre hPc hK hN hDc⟩ rfl rfl hl.1 rfl (lv_room (Nat.le_of_ble_eq_true rfl)) dX1_run_37 ⟨Nat.zero_le _, Nat.zero_le _⟩) hS hA hP hD [10] [0, 1, 2, 3, 4, 5, 6, 7, 8, 9, 11, 12, 13] [0, 1, 2, 3, 4, 5, 6, 7, 8, 9, 13, 10, 11, 12] (by decide) rfl (by decide) (by decide) rfl (fun u => rfl) (fun u => rfl) (fun u => rfl) (fun u H locs h hP hD hS => ?_)
        obtain ⟨gf0_37, eu⟩ : ∃ z, z = u := ⟨_, rfl⟩
        subst eu
        replace hP : va_P D zCl ((bX1 ah cy (va_up S_28 9 gf0_37)) ++ ((bX3 ao1 cy So1))) H := hP
        replace hD : va_D A ((bX1 ah cy (va_up S_28 9 gf0_37)) ++ ((bX3 ao1 cy So1))) := hD
        obtain ⟨S_37, eS_37⟩ : ∃ z : zT, z = (va_up S_28 9 gf0_37) := ⟨_, rfl⟩
        replace h := h S_37 eS_37
        replace hP : va_P D zCl ((bX1 ah cy S_37) ++ ((bX3 ao1 cy So1))) H := by rw [eS_37]; exact hP
        replace hD : va_D A ((bX1 ah cy S_37) ++ ((bX3 ao1 cy So1))) := by rw [eS_37]; exact hD
        obtain ⟨y40, ey40⟩ : ∃ z : Int32, z = (x2 + (1 : Int32)) := ⟨_, rfl⟩
        replace h := h y40 ey40
        refine lv_iinc (v := y40) (lv' := [(2, .int y40), (0, .ref (ah 99)), (1, .ref (ao1 99))]) hx hb dX1_run_40 hl (k := 2) rfl (by rw [ey40]; rfl) (by decide) rfl (fun ls hl => ?_)
        refine lv_goto (tgt := 10) hx hb dX1_run_43 (by decide) ?_
        exact ih10 y40 S_37 h H locs hP hD hS ls (lv_sub hl [1, 2, 0] rfl)
  refine lv_aload_n hx hb dX1_run_0 rfl (lv_at hl 0 rfl) ?_
  refine lv_aload_n hx hb dX1_run_1 rfl (lv_at hl 1 rfl) ?_
  refine va_getN (D := D) (ci := 3) (v := .int (So1 2 0)) (C := RX3) (T := TX3) (N := 3) hx hb htB ziX3 hown hK hP 11 rfl rfl 2 (by decide) (va_Nw.use rfl (hN _ zm_91)) (fun _ h9 => h9) rfl dX1_run_2 ?_
  refine va_put (D := D) (ci := 1) (v := .int (So1 2 0)) (ty := .int) (C := RX1) (T := TX1) (N := 11) hx hb htB ziX1 tyX1 tyX1_ok nmX1 hown hK hP hD hS 0 rfl rfl 10 (by decide) (htB _ zm_21) (fun _ h9 => h9) rfl (tyX1_ok 10 (by decide)) rfl rfl (Nat.le_of_ble_eq_true rfl) dX1_run_5 (fun H locs hP hD hS => ?_)
  obtain ⟨S_5, eS_5⟩ : ∃ z : zT, z = (va_up S 10 (fun _ => (So1 2 0))) := ⟨_, rfl⟩
  replace h := h S_5 eS_5
  replace hP : va_P D zCl ((bX1 ah cy S_5) ++ ((bX3 ao1 cy So1))) H := by rw [eS_5]; exact hP
  replace hD : va_D A ((bX1 ah cy S_5) ++ ((bX3 ao1 cy So1))) := by rw [eS_5]; exact hD
  refine lv_iconst (v := (0 : Int32)) hx hb dX1_run_8 (by decide) ?_
  refine lv_istore_n (lv' := [(2, .int (0 : Int32)), (0, .ref (ah 99)), (1, .ref (ao1 99))]) hx hb dX1_run_9 rfl hl (by decide) rfl (fun ls hl => ?_)
  obtain ⟨nn, h⟩ := h
  exact L10 nn (0 : Int32) S_5 h H locs hP hD hS ls (lv_sub hl [1, 2, 0] rfl)
set_option maxHeartbeats 4000000 in
set_option maxRecDepth 100000 in
theorem c_X1_lossOfAll (l : Launch) (D : va_G) (cy : ClassId) (ah : Nat → Nat) (S : zT) {Q : Int32 → Prop} (h : wp_X1_lossOfAll S Q) : Met l yX1_lossOfAll w_X1_lossOfAll rm_X1_lossOfAll (va_Pc [.ref (ah 99)] (zR D cy (bX1 ah cy S))) (vp_Si Q) 0 0 (fun _ => False) := by
  refine zOf_r (by decide) (Nat.le_of_ble_eq_true rfl) ?_
  intro p e s m below meth c ls hx hb hr hml hown htB hlocks hK hN hP hl
  replace hl : lv_has ls 3 [(0, .ref (ah 99))] := hl
  have L4 : ∀ (k4 : Nat) (x1 : Int32) (x2 : Int32), wpl_X1_lossOfAll_4 S Q k4 x1 x2 → ∀ ls : Array Slot, lv_has ls 3 [(0, .ref (ah 99)), (1, .int x1), (2, .int x2)] → W p l e rm_X1_lossOfAll s m ([.ref (ah 99)] : List Value).toArray below meth c s.heap [] 0 0 (MQ below (vp_Si Q) ([.ref (ah 99)] : List Value).toArray s 0 0 (fun _ => False)) (F0 m 4 ls []) := by
    intro k4
    induction k4 with
    | zero => exact fun x1 x2 h => False.elim h
    | succ k4 ih4 =>
      intro x1 x2 h ls hl
      refine lv_iload_n hx hb dX1_lossOfAll_4 rfl (lv_at hl 2 rfl) ?_
      refine lv_aload_n hx hb dX1_lossOfAll_5 rfl (lv_at hl 0 rfl) ?_
      refine va_get (D := D) (ci := 1) (v := .int (S 10 0)) (C := RX1) (T := TX1) (N := 11) hx hb htB ziX1 hown hK hP 0 rfl rfl 10 (by decide) (htB _ zm_21) (fun _ h9 => h9) rfl dX1_lossOfAll_6 ?_
      refine lv_icmp_ge (tgt := 29) hx hb dX1_lossOfAll_9 (by decide) (fun c9 => ?_) (fun c9 => ?_)
      · replace h := And.left h c9
        refine lv_iload_n hx hb dX1_lossOfAll_29 rfl (lv_at hl 1 rfl) ?_
        exact W.iret (v := x1) hx hb hr (fun t ht hW => ⟨_, rfl, h, ht⟩) (fun q hq => by cases hq) dX1_lossOfAll_30
      · replace h := And.right h c9
        refine lv_iload_n hx hb dX1_lossOfAll_12 rfl (lv_at hl 1 rfl) ?_
        refine lv_aload_n hx hb dX1_lossOfAll_13 rfl (lv_at hl 0 rfl) ?_
        refine va_get (D := D) (ci := 1) (v := .ref (ah 7)) (C := RX1) (T := TX1) (N := 11) hx hb htB ziX1 hown hK hP 0 rfl rfl 7 (by decide) (htB _ zm_73) (fun _ h9 => h9) rfl dX1_lossOfAll_14 ?_
        refine lv_iload_n hx hb dX1_lossOfAll_17 rfl (lv_at hl 2 rfl) ?_
        have hPc : va_P D zCl [((ah 7), .inl (cy, 8, .inl (S 7)))] s.heap := hP.sub [8] rfl
        refine zc_r (va_runSN (As := [.ref (ah 7), .int x2]) (rest := [.int x1]) ⟨hx, hb, hml, hown, htB⟩ (c_X4_at l D cy (ah 7) 8 (S 7) x2 h) ⟨va_cnB 2 htB (zgN zm_13) rfl rfl rfl (hN _ zm_19) (htB _ zm_4) hd_X4_at.2 ⟨Nat.le_of_ble_eq_true rfl, Nat.le_of_ble_eq_true rfl⟩, htB _ zm_14, trivial⟩ ⟨zR_blind, zR_pre hPc hK hN⟩ rfl rfl hl.1 rfl (lv_room (Nat.le_of_ble_eq_true rfl)) dX1_lossOfAll_18 ⟨Nat.zero_le _, Nat.zero_le _⟩) (fun r18 h => ?_)
        refine lv_iadd hx hb dX1_lossOfAll_21 ?_
        refine lv_topi (fun y22 ey22 => ?_)
        replace h := h y22 ey22
        refine lv_istore_n (lv' := [(1, .int y22), (0, .ref (ah 99)), (2, .int x2)]) hx hb dX1_lossOfAll_22 rfl hl (by decide) rfl (fun ls hl => ?_)
        obtain ⟨y23, ey23⟩ : ∃ z : Int32, z = (x2 + (1 : Int32)) := ⟨_, rfl⟩
        replace h := h y23 ey23
        refine lv_iinc (v := y23) (lv' := [(2, .int y23), (1, .int y22), (0, .ref (ah 99))]) hx hb dX1_lossOfAll_23 hl (k := 2) rfl (by rw [ey23]; rfl) (by decide) rfl (fun ls hl => ?_)
        refine lv_goto (tgt := 4) hx hb dX1_lossOfAll_26 (by decide) ?_
        exact ih4 y22 y23 h ls (lv_sub hl [2, 1, 0] rfl)
  refine lv_iconst (v := (0 : Int32)) hx hb dX1_lossOfAll_0 (by decide) ?_
  refine lv_istore_n (lv' := [(1, .int (0 : Int32)), (0, .ref (ah 99))]) hx hb dX1_lossOfAll_1 rfl hl (by decide) rfl (fun ls hl => ?_)
  refine lv_iconst (v := (0 : Int32)) hx hb dX1_lossOfAll_2 (by decide) ?_
  refine lv_istore_n (lv' := [(2, .int (0 : Int32)), (1, .int (0 : Int32)), (0, .ref (ah 99))]) hx hb dX1_lossOfAll_3 rfl hl (by decide) rfl (fun ls hl => ?_)
  obtain ⟨nn, h⟩ := h
  exact L4 nn (0 : Int32) (0 : Int32) h ls (lv_sub hl [2, 1, 0] rfl)
set_option maxHeartbeats 4000000 in
set_option maxRecDepth 100000 in
theorem c_X1_countHeldFor (l : Launch) (D : va_G) (cy : ClassId) (ah : Nat → Nat) (S : zT) {Q : Int32 → Prop} (h : wp_X1_countHeldFor S Q) : Met l yX1_countHeldFor w_X1_countHeldFor rm_X1_countHeldFor (va_Pc [.ref (ah 99)] (zR D cy (bX1 ah cy S))) (vp_Si Q) 0 0 (fun _ => False) := by
  refine zOf_r (by decide) (Nat.le_of_ble_eq_true rfl) ?_
  intro p e s m below meth c ls hx hb hr hml hown htB hlocks hK hN hP hl
  replace hl : lv_has ls 3 [(0, .ref (ah 99))] := hl
  have L4 : ∀ (k4 : Nat) (x1 : Int32) (x2 : Int32), wpl_X1_countHeldFor_4 S Q k4 x1 x2 → ∀ ls : Array Slot, lv_has ls 3 [(0, .ref (ah 99)), (1, .int x1), (2, .int x2)] → W p l e rm_X1_countHeldFor s m ([.ref (ah 99)] : List Value).toArray below meth c s.heap [] 0 0 (MQ below (vp_Si Q) ([.ref (ah 99)] : List Value).toArray s 0 0 (fun _ => False)) (F0 m 4 ls []) := by
    intro k4
    induction k4 with
    | zero => exact fun x1 x2 h => False.elim h
    | succ k4 ih4 =>
      have L29 : ∀ (x2 : Int32) (t0 : Int32) (t1 : Int32), wpb_X1_countHeldFor_29 S Q (wpl_X1_countHeldFor_4 S Q k4) x2 t0 t1 → ∀ ls : Array Slot, lv_has ls 3 [(0, .ref (ah 99)), (2, .int x2)] → W p l e rm_X1_countHeldFor s m ([.ref (ah 99)] : List Value).toArray below meth c s.heap [] 0 0 (MQ below (vp_Si Q) ([.ref (ah 99)] : List Value).toArray s 0 0 (fun _ => False)) (F0 m 29 ls [.int t1, .int t0]) := by
        intro x2 t0 t1 h ls hl
        refine lv_iadd hx hb dX1_countHeldFor_29 ?_
        refine lv_topi (fun y30 ey30 => ?_)
        replace h := h y30 ey30
        refine lv_istore_n (lv' := [(1, .int y30), (0, .ref (ah 99)), (2, .int x2)]) hx hb dX1_countHeldFor_30 rfl hl (by decide) rfl (fun ls hl => ?_)
        obtain ⟨y31, ey31⟩ : ∃ z : Int32, z = (x2 + (1 : Int32)) := ⟨_, rfl⟩
        replace h := h y31 ey31
        refine lv_iinc (v := y31) (lv' := [(2, .int y31), (1, .int y30), (0, .ref (ah 99))]) hx hb dX1_countHeldFor_31 hl (k := 2) rfl (by rw [ey31]; rfl) (by decide) rfl (fun ls hl => ?_)
        refine lv_goto (tgt := 4) hx hb dX1_countHeldFor_34 (by decide) ?_
        exact ih4 y30 y31 h ls (lv_sub hl [2, 1, 0] rfl)
      intro x1 x2 h ls hl
      refine lv_iload_n hx hb dX1_countHeldFor_4 rfl (lv_at hl 2 rfl) ?_
      refine lv_aload_n hx hb dX1_countHeldFor_5 rfl (lv_at hl 0 rfl) ?_
      refine va_get (D := D) (ci := 1) (v := .int (S 10 0)) (C := RX1) (T := TX1) (N := 11) hx hb htB ziX1 hown hK hP 0 rfl rfl 10 (by decide) (htB _ zm_21) (fun _ h9 => h9) rfl dX1_countHeldFor_6 ?_
      refine lv_icmp_ge (tgt := 37) hx hb dX1_countHeldFor_9 (by decide) (fun c9 => ?_) (fun c9 => ?_)
      · replace h := And.left h c9
        refine lv_iload_n hx hb dX1_countHeldFor_37 rfl (lv_at hl 1 rfl) ?_
        exact W.iret (v := x1) hx hb hr (fun t ht hW => ⟨_, rfl, h, ht⟩) (fun q hq => by cases hq) dX1_countHeldFor_38
      · replace h := And.right h c9
        refine lv_iload_n hx hb dX1_countHeldFor_12 rfl (lv_at hl 1 rfl) ?_
        refine lv_aload_n hx hb dX1_countHeldFor_13 rfl (lv_at hl 0 rfl) ?_
        refine va_get (D := D) (ci := 1) (v := .ref (ah 5)) (C := RX1) (T := TX1) (N := 11) hx hb htB ziX1 hown hK hP 0 rfl rfl 5 (by decide) (htB _ zm_43) (fun _ h9 => h9) rfl dX1_countHeldFor_14 ?_
        refine lv_iload_n hx hb dX1_countHeldFor_17 rfl (lv_at hl 2 rfl) ?_
        have hPc : va_P D zCl [((ah 5), .inl (cy, 8, .inl (S 5)))] s.heap := hP.sub [6] rfl
        refine zc_r (va_runSN (As := [.ref (ah 5), .int x2]) (rest := [.int x1]) ⟨hx, hb, hml, hown, htB⟩ (c_X4_at l D cy (ah 5) 8 (S 5) x2 h) ⟨va_cnB 2 htB (zgN zm_13) rfl rfl rfl (hN _ zm_19) (htB _ zm_4) hd_X4_at.2 ⟨Nat.le_of_ble_eq_true rfl, Nat.le_of_ble_eq_true rfl⟩, htB _ zm_14, trivial⟩ ⟨zR_blind, zR_pre hPc hK hN⟩ rfl rfl hl.1 rfl (lv_room (Nat.le_of_ble_eq_true rfl)) dX1_countHeldFor_18 ⟨Nat.zero_le _, Nat.zero_le _⟩) (fun r18 h => ?_)
        refine lv_if_lt (tgt := 28) hx hb dX1_countHeldFor_21 (by decide) (fun c21 => ?_) (fun c21 => ?_)
        · replace h := And.left h c21
          refine lv_iconst (v := (0 : Int32)) hx hb dX1_countHeldFor_28 (by decide) ?_
          exact L29 x2 x1 (0 : Int32) h ls (lv_sub hl [0, 2] rfl)
        · replace h := And.right h c21
          refine lv_iconst (v := (1 : Int32)) hx hb dX1_countHeldFor_24 (by decide) ?_
          refine lv_goto (tgt := 29) hx hb dX1_countHeldFor_25 (by decide) ?_
          exact L29 x2 x1 (1 : Int32) h ls (lv_sub hl [0, 2] rfl)
  refine lv_iconst (v := (0 : Int32)) hx hb dX1_countHeldFor_0 (by decide) ?_
  refine lv_istore_n (lv' := [(1, .int (0 : Int32)), (0, .ref (ah 99))]) hx hb dX1_countHeldFor_1 rfl hl (by decide) rfl (fun ls hl => ?_)
  refine lv_iconst (v := (0 : Int32)) hx hb dX1_countHeldFor_2 (by decide) ?_
  refine lv_istore_n (lv' := [(2, .int (0 : Int32)), (1, .int (0 : Int32)), (0, .ref (ah 99))]) hx hb dX1_countHeldFor_3 rfl hl (by decide) rfl (fun ls hl => ?_)
  obtain ⟨nn, h⟩ := h
  exact L4 nn (0 : Int32) (0 : Int32) h ls (lv_sub hl [2, 1, 0] rfl)
set_option maxHeartbeats 4000000 in
set_option maxRecDepth 100000 in
theorem c_X1_longestStand (l : Launch) (D : va_G) (cy : ClassId) (ah : Nat → Nat) (S : zT) {Q : Int32 → Prop} (h : wp_X1_longestStand S Q) : Met l yX1_longestStand w_X1_longestStand rm_X1_longestStand (va_Pc [.ref (ah 99)] (zR D cy (bX1 ah cy S))) (vp_Si Q) 0 0 (fun _ => False) := by
  refine zOf_r (by decide) (Nat.le_of_ble_eq_true rfl) ?_
  intro p e s m below meth c ls hx hb hr hml hown htB hlocks hK hN hP hl
  replace hl : lv_has ls 3 [(0, .ref (ah 99))] := hl
  have L4 : ∀ (k4 : Nat) (x1 : Int32) (x2 : Int32), wpl_X1_longestStand_4 S Q k4 x1 x2 → ∀ ls : Array Slot, lv_has ls 3 [(0, .ref (ah 99)), (1, .int x1), (2, .int x2)] → W p l e rm_X1_longestStand s m ([.ref (ah 99)] : List Value).toArray below meth c s.heap [] 0 0 (MQ below (vp_Si Q) ([.ref (ah 99)] : List Value).toArray s 0 0 (fun _ => False)) (F0 m 4 ls []) := by
    intro k4
    induction k4 with
    | zero => exact fun x1 x2 h => False.elim h
    | succ k4 ih4 =>
      intro x1 x2 h ls hl
      refine lv_iload_n hx hb dX1_longestStand_4 rfl (lv_at hl 2 rfl) ?_
      refine lv_aload_n hx hb dX1_longestStand_5 rfl (lv_at hl 0 rfl) ?_
      refine va_get (D := D) (ci := 1) (v := .int (S 10 0)) (C := RX1) (T := TX1) (N := 11) hx hb htB ziX1 hown hK hP 0 rfl rfl 10 (by decide) (htB _ zm_21) (fun _ h9 => h9) rfl dX1_longestStand_6 ?_
      refine lv_icmp_ge (tgt := 31) hx hb dX1_longestStand_9 (by decide) (fun c9 => ?_) (fun c9 => ?_)
      · replace h := And.left h c9
        refine lv_iload_n hx hb dX1_longestStand_31 rfl (lv_at hl 1 rfl) ?_
        exact W.iret (v := x1) hx hb hr (fun t ht hW => ⟨_, rfl, h, ht⟩) (fun q hq => by cases hq) dX1_longestStand_32
      · replace h := And.right h c9
        refine lv_iload_n hx hb dX1_longestStand_12 rfl (lv_at hl 1 rfl) ?_
        refine lv_aload_n hx hb dX1_longestStand_13 rfl (lv_at hl 0 rfl) ?_
        refine va_get (D := D) (ci := 1) (v := .ref (ah 4)) (C := RX1) (T := TX1) (N := 11) hx hb htB ziX1 hown hK hP 0 rfl rfl 4 (by decide) (htB _ zm_23) (fun _ h9 => h9) rfl dX1_longestStand_14 ?_
        refine lv_iload_n hx hb dX1_longestStand_17 rfl (lv_at hl 2 rfl) ?_
        have hPc : va_P D zCl [((ah 4), .inl (cy, 8, .inl (S 4)))] s.heap := hP.sub [5] rfl
        refine zc_r (va_runSN (As := [.ref (ah 4), .int x2]) (rest := [.int x1]) ⟨hx, hb, hml, hown, htB⟩ (c_X4_at l D cy (ah 4) 8 (S 4) x2 h) ⟨va_cnB 2 htB (zgN zm_13) rfl rfl rfl (hN _ zm_19) (htB _ zm_4) hd_X4_at.2 ⟨Nat.le_of_ble_eq_true rfl, Nat.le_of_ble_eq_true rfl⟩, htB _ zm_14, trivial⟩ ⟨zR_blind, zR_pre hPc hK hN⟩ rfl rfl hl.1 rfl (lv_room (Nat.le_of_ble_eq_true rfl)) dX1_longestStand_18 ⟨Nat.zero_le _, Nat.zero_le _⟩) (fun r18 h => ?_)
        refine va_mmax hx hb (hml.trans hl.1.symm) hown (htB _ zm_54) (htB _ zm_36) (htB _ zm_37) (htB _ zm_38) (Nat.le_of_ble_eq_true rfl) (Nat.le_of_ble_eq_true rfl) (Nat.zero_le _) (Nat.zero_le _) dX1_longestStand_21 ?_
        refine lv_topi (fun y24 ey24 => ?_)
        replace h := h y24 ey24
        refine lv_istore_n (lv' := [(1, .int y24), (0, .ref (ah 99)), (2, .int x2)]) hx hb dX1_longestStand_24 rfl hl (by decide) rfl (fun ls hl => ?_)
        obtain ⟨y25, ey25⟩ : ∃ z : Int32, z = (x2 + (1 : Int32)) := ⟨_, rfl⟩
        replace h := h y25 ey25
        refine lv_iinc (v := y25) (lv' := [(2, .int y25), (1, .int y24), (0, .ref (ah 99))]) hx hb dX1_longestStand_25 hl (k := 2) rfl (by rw [ey25]; rfl) (by decide) rfl (fun ls hl => ?_)
        refine lv_goto (tgt := 4) hx hb dX1_longestStand_28 (by decide) ?_
        exact ih4 y24 y25 h ls (lv_sub hl [2, 1, 0] rfl)
  refine lv_iconst (v := (0 : Int32)) hx hb dX1_longestStand_0 (by decide) ?_
  refine lv_istore_n (lv' := [(1, .int (0 : Int32)), (0, .ref (ah 99))]) hx hb dX1_longestStand_1 rfl hl (by decide) rfl (fun ls hl => ?_)
  refine lv_iconst (v := (0 : Int32)) hx hb dX1_longestStand_2 (by decide) ?_
  refine lv_istore_n (lv' := [(2, .int (0 : Int32)), (1, .int (0 : Int32)), (0, .ref (ah 99))]) hx hb dX1_longestStand_3 rfl hl (by decide) rfl (fun ls hl => ?_)
  obtain ⟨nn, h⟩ := h
  exact L4 nn (0 : Int32) (0 : Int32) h ls (lv_sub hl [2, 1, 0] rfl)
set_option maxHeartbeats 4000000 in
set_option maxRecDepth 100000 in
theorem c_X1_openSeconds (l : Launch) (D : va_G) (cy : ClassId) (ah : Nat → Nat) (S : zT) (i1 : Int32) {Q : Int32 → Prop} (h : wp_X1_openSeconds S i1 Q) : Met l yX1_openSeconds w_X1_openSeconds rm_X1_openSeconds (va_Pc [.ref (ah 99), .int i1] (zR D cy (bX1 ah cy S))) (vp_Si Q) 0 0 (fun _ => False) := by
  refine zOf_r (by decide) (Nat.le_of_ble_eq_true rfl) ?_
  intro p e s m below meth c ls hx hb hr hml hown htB hlocks hK hN hP hl
  replace hl : lv_has ls 7 [(0, .ref (ah 99)), (1, .int i1)] := hl
  have L7 : ∀ (k7 : Nat) (x2 : Int32) (x3 : Int32) (x4 : Int32), wpl_X1_openSeconds_7 S i1 Q k7 x2 x3 x4 → ∀ ls : Array Slot, lv_has ls 7 [(0, .ref (ah 99)), (1, .int i1), (2, .int x2), (3, .int x3), (4, .int x4)] → W p l e rm_X1_openSeconds s m ([.ref (ah 99), .int i1] : List Value).toArray below meth c s.heap [] 0 0 (MQ below (vp_Si Q) ([.ref (ah 99), .int i1] : List Value).toArray s 0 0 (fun _ => False)) (F0 m 7 ls []) := by
    intro k7
    induction k7 with
    | zero => exact fun x2 x3 x4 h => False.elim h
    | succ k7 ih7 =>
      intro x2 x3 x4 h ls hl
      refine lv_iload hx hb dX1_openSeconds_7 (lv_at hl 4 rfl) ?_
      refine lv_aload_n hx hb dX1_openSeconds_9 rfl (lv_at hl 0 rfl) ?_
      refine va_get (D := D) (ci := 1) (v := .int (S 10 0)) (C := RX1) (T := TX1) (N := 11) hx hb htB ziX1 hown hK hP 0 rfl rfl 10 (by decide) (htB _ zm_21) (fun _ h9 => h9) rfl dX1_openSeconds_10 ?_
      refine lv_icmp_ge (tgt := 64) hx hb dX1_openSeconds_13 (by decide) (fun c13 => ?_) (fun c13 => ?_)
      · replace h := And.left h c13
        refine lv_iload_n hx hb dX1_openSeconds_64 rfl (lv_at hl 2 rfl) ?_
        exact W.iret (v := x2) hx hb hr (fun t ht hW => ⟨_, rfl, h, ht⟩) (fun q hq => by cases hq) dX1_openSeconds_65
      · replace h := And.right h c13
        refine lv_aload_n hx hb dX1_openSeconds_16 rfl (lv_at hl 0 rfl) ?_
        refine va_get (D := D) (ci := 1) (v := .ref (ah 0)) (C := RX1) (T := TX1) (N := 11) hx hb htB ziX1 hown hK hP 0 rfl rfl 0 (by decide) (htB _ zm_78) (fun _ h9 => h9) rfl dX1_openSeconds_17 ?_
        refine lv_iload hx hb dX1_openSeconds_20 (lv_at hl 4 rfl) ?_
        have hPc : va_P D zCl [((ah 0), .inl (cy, 8, .inl (S 0)))] s.heap := hP.sub [1] rfl
        refine zc_r (va_runSN (As := [.ref (ah 0), .int x4]) (rest := []) ⟨hx, hb, hml, hown, htB⟩ (c_X4_at l D cy (ah 0) 8 (S 0) x4 h) ⟨va_cnB 2 htB (zgN zm_13) rfl rfl rfl (hN _ zm_19) (htB _ zm_4) hd_X4_at.2 ⟨Nat.le_of_ble_eq_true rfl, Nat.le_of_ble_eq_true rfl⟩, htB _ zm_14, trivial⟩ ⟨zR_blind, zR_pre hPc hK hN⟩ rfl rfl hl.1 rfl (lv_room (Nat.le_of_ble_eq_true rfl)) dX1_openSeconds_22 ⟨Nat.zero_le _, Nat.zero_le _⟩) (fun r22 h => ?_)
        refine lv_istore (lv' := [(5, .int r22), (0, .ref (ah 99)), (1, .int i1), (2, .int x2), (3, .int x3), (4, .int x4)]) hx hb dX1_openSeconds_25 hl (by decide) rfl (fun ls hl => ?_)
        refine lv_aload_n hx hb dX1_openSeconds_27 rfl (lv_at hl 1 rfl) ?_
        refine va_get (D := D) (ci := 1) (v := .ref (ah 1)) (C := RX1) (T := TX1) (N := 11) hx hb htB ziX1 hown hK hP 0 rfl rfl 1 (by decide) (htB _ zm_41) (fun _ h9 => h9) rfl dX1_openSeconds_28 ?_
        refine lv_iload hx hb dX1_openSeconds_31 (lv_at hl 0 rfl) ?_
        have hPc : va_P D zCl [((ah 1), .inl (cy, 8, .inl (S 1)))] s.heap := hP.sub [2] rfl
        refine zc_r (va_runSN (As := [.ref (ah 1), .int r22]) (rest := []) ⟨hx, hb, hml, hown, htB⟩ (c_X4_at l D cy (ah 1) 8 (S 1) r22 h) ⟨va_cnB 2 htB (zgN zm_13) rfl rfl rfl (hN _ zm_19) (htB _ zm_4) hd_X4_at.2 ⟨Nat.le_of_ble_eq_true rfl, Nat.le_of_ble_eq_true rfl⟩, htB _ zm_14, trivial⟩ ⟨zR_blind, zR_pre hPc hK hN⟩ rfl rfl hl.1 rfl (lv_room (Nat.le_of_ble_eq_true rfl)) dX1_openSeconds_33 ⟨Nat.zero_le _, Nat.zero_le _⟩) (fun r33 h => ?_)
        refine lv_iload_n hx hb dX1_openSeconds_36 rfl (lv_at hl 4 rfl) ?_
        refine va_mmax hx hb (hml.trans hl.1.symm) hown (htB _ zm_54) (htB _ zm_36) (htB _ zm_37) (htB _ zm_38) (Nat.le_of_ble_eq_true rfl) (Nat.le_of_ble_eq_true rfl) (Nat.zero_le _) (Nat.zero_le _) dX1_openSeconds_37 ?_
        refine lv_topi (fun y40 ey40 => ?_)
        replace h := h y40 ey40
        refine lv_istore (lv' := [(6, .int y40), (5, .int r22), (0, .ref (ah 99)), (1, .int i1), (2, .int x2), (3, .int x3), (4, .int x4)]) hx hb dX1_openSeconds_40 hl (by decide) rfl (fun ls hl => ?_)
        refine lv_aload_n hx hb dX1_openSeconds_42 rfl (lv_at hl 2 rfl) ?_
        refine lv_iload hx hb dX1_openSeconds_43 (lv_at hl 1 rfl) ?_
        refine zc_r (va_runV (As := [.int r22]) (rest := []) ⟨hx, hb, hml, hown, htB⟩ (c_X1_goneAt l D cy ah S r22 h) (cwV 1 htB (zgV zm_55 zm_58 zm_59 zm_57 zm_56) rfl rfl rfl hd_X1_goneAt ⟨Nat.le_of_ble_eq_true rfl, Nat.le_of_ble_eq_true rfl⟩) ⟨zR_blind, va_recv hK hP (ci := 1) (q0 := 0) rfl rfl, zR_pre hP hK hN⟩ rfl rfl hl.1 rfl (lv_room (Nat.le_of_ble_eq_true rfl)) dX1_openSeconds_45 ⟨Nat.zero_le _, Nat.zero_le _⟩) (fun r45 h => ?_)
        refine lv_iload_n hx hb dX1_openSeconds_48 rfl (lv_at hl 3 rfl) ?_
        refine lv_iadd hx hb dX1_openSeconds_49 ?_
        refine lv_topi (fun y50 ey50 => ?_)
        replace h := h y50 ey50
        refine lv_istore_n (lv' := [(3, .int y50), (6, .int y40), (5, .int r22), (0, .ref (ah 99)), (1, .int i1), (2, .int x2), (4, .int x4)]) hx hb dX1_openSeconds_50 rfl hl (by decide) rfl (fun ls hl => ?_)
        refine lv_iload_n hx hb dX1_openSeconds_51 rfl (lv_at hl 5 rfl) ?_
        refine lv_iload_n hx hb dX1_openSeconds_52 rfl (lv_at hl 0 rfl) ?_
        refine lv_iload hx hb dX1_openSeconds_53 (lv_at hl 1 rfl) ?_
        refine lv_isub hx hb dX1_openSeconds_55 ?_
        refine lv_iadd hx hb dX1_openSeconds_56 ?_
        refine lv_topi (fun y57 ey57 => ?_)
        replace h := h y57 ey57
        refine lv_istore_n (lv' := [(2, .int y57), (3, .int y50), (6, .int y40), (5, .int r22), (0, .ref (ah 99)), (1, .int i1), (4, .int x4)]) hx hb dX1_openSeconds_57 rfl hl (by decide) rfl (fun ls hl => ?_)
        obtain ⟨y58, ey58⟩ : ∃ z : Int32, z = (x4 + (1 : Int32)) := ⟨_, rfl⟩
        replace h := h y58 ey58
        refine lv_iinc (v := y58) (lv' := [(4, .int y58), (2, .int y57), (3, .int y50), (6, .int y40), (5, .int r22), (0, .ref (ah 99)), (1, .int i1)]) hx hb dX1_openSeconds_58 hl (k := 6) rfl (by rw [ey58]; rfl) (by decide) rfl (fun ls hl => ?_)
        refine lv_goto (tgt := 7) hx hb dX1_openSeconds_61 (by decide) ?_
        exact ih7 y57 y50 y58 h ls (lv_sub hl [5, 6, 1, 2, 0] rfl)
  refine lv_iconst (v := (0 : Int32)) hx hb dX1_openSeconds_0 (by decide) ?_
  refine lv_istore_n (lv' := [(2, .int (0 : Int32)), (0, .ref (ah 99)), (1, .int i1)]) hx hb dX1_openSeconds_1 rfl hl (by decide) rfl (fun ls hl => ?_)
  refine lv_iconst (v := (0 : Int32)) hx hb dX1_openSeconds_2 (by decide) ?_
  refine lv_istore_n (lv' := [(3, .int (0 : Int32)), (2, .int (0 : Int32)), (0, .ref (ah 99)), (1, .int i1)]) hx hb dX1_openSeconds_3 rfl hl (by decide) rfl (fun ls hl => ?_)
  refine lv_iconst (v := (0 : Int32)) hx hb dX1_openSeconds_4 (by decide) ?_
  refine lv_istore (lv' := [(4, .int (0 : Int32)), (3, .int (0 : Int32)), (2, .int (0 : Int32)), (0, .ref (ah 99)), (1, .int i1)]) hx hb dX1_openSeconds_5 hl (by decide) rfl (fun ls hl => ?_)
  obtain ⟨nn, h⟩ := h
  exact L7 nn (0 : Int32) (0 : Int32) (0 : Int32) h ls (lv_sub hl [3, 4, 2, 1, 0] rfl)
set_option maxHeartbeats 4000000 in
set_option maxRecDepth 100000 in
theorem c_X2_add (l : Launch) (D : va_G) (cy : ClassId) (ah : Nat → Nat) (sz : Nat) (i1 : Int32) (S : zT) {Q : zT → Prop} (h : wp_X2_add i1 S Q) : Met l yX2_add w_X2_add rm_X2_add (va_Pc [.ref (ah 99), .int i1] (zM D cy (bX2 ah cy S) sz)) (va_Qv (S := zT) (fun (u : zT) => Q u) (fun u t => va_P D zCl ((fun (u : zT) => (bX2 ah cy u)) u) t.heap) (va_A (bX2 ah cy S) sz)) 0 0 (va_A (bX2 ah cy S) sz) := by
  refine zOf_v (by decide) (Nat.le_of_ble_eq_true rfl) ?_
  intro p e s m below meth c ls A H locs hx hb hr hml hown htB hlocks hK hN hP hD hS hA hl
  replace hl : lv_has ls 2 [(0, .ref (ah 99)), (1, .int i1)] := hl
  refine lv_aload_n hx hb dX2_add_0 rfl (lv_at hl 0 rfl) ?_
  refine va_get (D := D) (ci := 2) (v := .ref (ah 0)) (C := RX2) (T := TX2) (N := 5) hx hb htB ziX2 hown hK hP 0 rfl rfl 0 (by decide) (htB _ zm_92) (fun _ h9 => h9) rfl dX2_add_1 ?_
  refine lv_aload_n hx hb dX2_add_4 rfl (lv_at hl 0 rfl) ?_
  refine va_get (D := D) (ci := 2) (v := .int (S 1 0)) (C := RX2) (T := TX2) (N := 5) hx hb htB ziX2 hown hK hP 0 rfl rfl 1 (by decide) (htB _ zm_93) (fun _ h9 => h9) rfl dX2_add_5 ?_
  refine lv_iload_n hx hb dX2_add_8 rfl (lv_at hl 1 rfl) ?_
  have hPc : va_P D zCl [((ah 0), .inl (cy, 80, .inl (S 0)))] H := hP.sub [1] rfl
  have hDc : va_D A [((ah 0), .inl (cy, 80, .inl (S 0)))] := hD.sub [1] (by decide) rfl
  refine zc_v (ws' := fun u => (bX2 ah cy (va_up S 0 u))) (va_runSN (As := [.ref (ah 0), .int (S 1 0), .int i1]) (rest := []) ⟨hx, hb, hml, hown, htB⟩ (c_X4_put l D cy (ah 0) H.size 80 (S 1 0) i1 (S 0) h) ⟨va_cnB 3 htB (zgN zm_3) rfl rfl rfl (hN _ zm_94) (htB _ zm_4) hd_X4_put.2 ⟨Nat.le_of_ble_eq_true rfl, Nat.le_of_ble_eq_true rfl⟩, htB _ zm_5, trivial⟩ ⟨zM_blind, zM_pre hPc hK hN hDc⟩ rfl rfl hl.1 rfl (lv_room (Nat.le_of_ble_eq_true rfl)) dX2_add_9 ⟨Nat.zero_le _, Nat.zero_le _⟩) hS hA hP hD [1] [0, 2] [0, 2, 1] (by decide) rfl (by decide) (by decide) rfl (fun u => rfl) (fun u => rfl) (fun u => rfl) (fun u H locs h hP hD hS => ?_)
  obtain ⟨gf0_9, eu⟩ : ∃ z, z = u := ⟨_, rfl⟩
  subst eu
  replace hP : va_P D zCl (bX2 ah cy (va_up S 0 gf0_9)) H := hP
  replace hD : va_D A (bX2 ah cy (va_up S 0 gf0_9)) := hD
  obtain ⟨S_9, eS_9⟩ : ∃ z : zT, z = (va_up S 0 gf0_9) := ⟨_, rfl⟩
  replace h := h S_9 eS_9
  replace hP : va_P D zCl (bX2 ah cy S_9) H := by rw [eS_9]; exact hP
  replace hD : va_D A (bX2 ah cy S_9) := by rw [eS_9]; exact hD
  refine lv_aload_n hx hb dX2_add_12 rfl (lv_at hl 0 rfl) ?_
  refine lv_dup hx hb dX2_add_13 rfl ?_
  refine va_get (D := D) (ci := 2) (v := .int (S_9 1 0)) (C := RX2) (T := TX2) (N := 5) hx hb htB ziX2 hown hK hP 0 rfl rfl 1 (by decide) (htB _ zm_93) (fun _ h9 => h9) rfl dX2_add_14 ?_
  refine lv_iconst (v := (1 : Int32)) hx hb dX2_add_17 (by decide) ?_
  refine lv_iadd hx hb dX2_add_18 ?_
  refine va_put (D := D) (ci := 2) (v := .int ((S_9 1 0) + (1 : Int32))) (ty := .int) (C := RX2) (T := TX2) (N := 5) hx hb htB ziX2 tyX2 tyX2_ok nmX2 hown hK hP hD hS 0 rfl rfl 1 (by decide) (htB _ zm_93) (fun _ h9 => h9) rfl (tyX2_ok 1 (by decide)) rfl rfl (Nat.le_of_ble_eq_true rfl) dX2_add_19 (fun H locs hP hD hS => ?_)
  obtain ⟨S_19, eS_19⟩ : ∃ z : zT, z = (va_up S_9 1 (fun _ => ((S_9 1 0) + (1 : Int32)))) := ⟨_, rfl⟩
  replace h := h S_19 eS_19
  replace hP : va_P D zCl (bX2 ah cy S_19) H := by rw [eS_19]; exact hP
  replace hD : va_D A (bX2 ah cy S_19) := by rw [eS_19]; exact hD
  exact W.vret hx hb hr (fun t ht hW => ⟨⟨S_19, rfl, h, zP_h ht hP⟩, hS.F ht⟩) hS.2.2 dX2_add_22
set_option maxHeartbeats 4000000 in
set_option maxRecDepth 100000 in
theorem c_X2_begin (l : Launch) (D : va_G) (cy : ClassId) (ah : Nat → Nat) (sz : Nat) (S : zT) {Q : zT → Prop} (h : wp_X2_begin S Q) : Met l yX2_begin w_X2_begin rm_X2_begin (va_Pc [.ref (ah 99)] (zM D cy (bX2 ah cy S) sz)) (va_Qv (S := zT) (fun (u : zT) => Q u) (fun u t => va_P D zCl ((fun (u : zT) => (bX2 ah cy u)) u) t.heap) (va_A (bX2 ah cy S) sz)) 0 0 (va_A (bX2 ah cy S) sz) := by
  refine zOf_v (by decide) (Nat.le_of_ble_eq_true rfl) ?_
  intro p e s m below meth c ls A H locs hx hb hr hml hown htB hlocks hK hN hP hD hS hA hl
  replace hl : lv_has ls 1 [(0, .ref (ah 99))] := hl
  refine lv_aload_n hx hb dX2_begin_0 rfl (lv_at hl 0 rfl) ?_
  refine lv_iconst (v := (0 : Int32)) hx hb dX2_begin_1 (by decide) ?_
  refine va_put (D := D) (ci := 2) (v := .int (0 : Int32)) (ty := .int) (C := RX2) (T := TX2) (N := 5) hx hb htB ziX2 tyX2 tyX2_ok nmX2 hown hK hP hD hS 0 rfl rfl 2 (by decide) (htB _ zm_95) (fun _ h9 => h9) rfl (tyX2_ok 2 (by decide)) rfl rfl (Nat.le_of_ble_eq_true rfl) dX2_begin_2 (fun H locs hP hD hS => ?_)
  obtain ⟨S_2, eS_2⟩ : ∃ z : zT, z = (va_up S 2 (fun _ => (0 : Int32))) := ⟨_, rfl⟩
  replace h := h S_2 eS_2
  replace hP : va_P D zCl (bX2 ah cy S_2) H := by rw [eS_2]; exact hP
  replace hD : va_D A (bX2 ah cy S_2) := by rw [eS_2]; exact hD
  refine lv_aload_n hx hb dX2_begin_5 rfl (lv_at hl 0 rfl) ?_
  refine lv_iconst (v := (0 : Int32)) hx hb dX2_begin_6 (by decide) ?_
  refine va_put (D := D) (ci := 2) (v := .int (0 : Int32)) (ty := .boolean) (C := RX2) (T := TX2) (N := 5) hx hb htB ziX2 tyX2 tyX2_ok nmX2 hown hK hP hD hS 0 rfl rfl 3 (by decide) (htB _ zm_96) (fun _ h9 => h9) rfl (tyX2_ok 3 (by decide)) rfl rfl (Nat.le_of_ble_eq_true rfl) dX2_begin_7 (fun H locs hP hD hS => ?_)
  obtain ⟨S_7, eS_7⟩ : ∃ z : zT, z = (va_up S_2 3 (fun _ => (0 : Int32))) := ⟨_, rfl⟩
  replace h := h S_7 eS_7
  replace hP : va_P D zCl (bX2 ah cy S_7) H := by rw [eS_7]; exact hP
  replace hD : va_D A (bX2 ah cy S_7) := by rw [eS_7]; exact hD
  exact W.vret hx hb hr (fun t ht hW => ⟨⟨S_7, rfl, h, zP_h ht hP⟩, hS.F ht⟩) hS.2.2 dX2_begin_10
set_option maxHeartbeats 4000000 in
set_option maxRecDepth 100000 in
theorem c_X2_here (l : Launch) (D : va_G) (cy : ClassId) (ah : Nat → Nat) (S : zT) {Q : Int32 → Prop} (h : wp_X2_here S Q) : Met l yX2_here w_X2_here rm_X2_here (va_Pc [.ref (ah 99)] (zR D cy (bX2 ah cy S))) (vp_Si Q) 0 0 (fun _ => False) := by
  refine zOf_r (by decide) (Nat.le_of_ble_eq_true rfl) ?_
  intro p e s m below meth c ls hx hb hr hml hown htB hlocks hK hN hP hl
  replace hl : lv_has ls 1 [(0, .ref (ah 99))] := hl
  refine lv_aload_n hx hb dX2_here_0 rfl (lv_at hl 0 rfl) ?_
  refine va_get (D := D) (ci := 2) (v := .int (S 2 0)) (C := RX2) (T := TX2) (N := 5) hx hb htB ziX2 hown hK hP 0 rfl rfl 2 (by decide) (htB _ zm_95) (fun _ h9 => h9) rfl dX2_here_1 ?_
  refine lv_if_lt (tgt := 42) hx hb dX2_here_4 (by decide) (fun c4 => ?_) (fun c4 => ?_)
  · replace h := And.left h c4
    refine lv_iconst (v := (-1 : Int32)) hx hb dX2_here_42 (by decide) ?_
    exact W.iret (v := (-1 : Int32)) hx hb hr (fun t ht hW => ⟨_, rfl, h, ht⟩) (fun q hq => by cases hq) dX2_here_43
  · replace h := And.right h c4
    refine lv_aload_n hx hb dX2_here_7 rfl (lv_at hl 0 rfl) ?_
    refine va_get (D := D) (ci := 2) (v := .int (S 2 0)) (C := RX2) (T := TX2) (N := 5) hx hb htB ziX2 hown hK hP 0 rfl rfl 2 (by decide) (htB _ zm_95) (fun _ h9 => h9) rfl dX2_here_8 ?_
    refine lv_aload_n hx hb dX2_here_11 rfl (lv_at hl 0 rfl) ?_
    refine va_get (D := D) (ci := 2) (v := .int (S 1 0)) (C := RX2) (T := TX2) (N := 5) hx hb htB ziX2 hown hK hP 0 rfl rfl 1 (by decide) (htB _ zm_93) (fun _ h9 => h9) rfl dX2_here_12 ?_
    refine lv_icmp_ge (tgt := 42) hx hb dX2_here_15 (by decide) (fun c15 => ?_) (fun c15 => ?_)
    · replace h := And.left h c15
      refine lv_iconst (v := (-1 : Int32)) hx hb dX2_here_42 (by decide) ?_
      exact W.iret (v := (-1 : Int32)) hx hb hr (fun t ht hW => ⟨_, rfl, h, ht⟩) (fun q hq => by cases hq) dX2_here_43
    · replace h := And.right h c15
      refine lv_aload_n hx hb dX2_here_18 rfl (lv_at hl 0 rfl) ?_
      refine va_get (D := D) (ci := 2) (v := .int (S 2 0)) (C := RX2) (T := TX2) (N := 5) hx hb htB ziX2 hown hK hP 0 rfl rfl 2 (by decide) (htB _ zm_95) (fun _ h9 => h9) rfl dX2_here_19 ?_
      refine lv_aload_n hx hb dX2_here_22 rfl (lv_at hl 0 rfl) ?_
      refine va_get (D := D) (ci := 2) (v := .ref (ah 0)) (C := RX2) (T := TX2) (N := 5) hx hb htB ziX2 hown hK hP 0 rfl rfl 0 (by decide) (htB _ zm_92) (fun _ h9 => h9) rfl dX2_here_23 ?_
      refine va_alen (D := D) (v := (80 : Int32)) hx hb hK hP 1 0 rfl rfl rfl dX2_here_26 ?_
      refine lv_icmp_ge (tgt := 42) hx hb dX2_here_27 (by decide) (fun c27 => ?_) (fun c27 => ?_)
      · replace h := And.left h c27
        refine lv_iconst (v := (-1 : Int32)) hx hb dX2_here_42 (by decide) ?_
        exact W.iret (v := (-1 : Int32)) hx hb hr (fun t ht hW => ⟨_, rfl, h, ht⟩) (fun q hq => by cases hq) dX2_here_43
      · replace h := And.right h c27
        refine lv_aload_n hx hb dX2_here_30 rfl (lv_at hl 0 rfl) ?_
        refine va_get (D := D) (ci := 2) (v := .ref (ah 0)) (C := RX2) (T := TX2) (N := 5) hx hb htB ziX2 hown hK hP 0 rfl rfl 0 (by decide) (htB _ zm_92) (fun _ h9 => h9) rfl dX2_here_31 ?_
        refine lv_aload_n hx hb dX2_here_34 rfl (lv_at hl 0 rfl) ?_
        refine va_get (D := D) (ci := 2) (v := .int (S 2 0)) (C := RX2) (T := TX2) (N := 5) hx hb htB ziX2 hown hK hP 0 rfl rfl 2 (by decide) (htB _ zm_95) (fun _ h9 => h9) rfl dX2_here_35 ?_
        refine va_iald (D := D) hx hb hK hP 1 0 rfl rfl (And.left h) dX2_here_38 ?_
        replace h := And.right h
        refine lv_goto (tgt := 43) hx hb dX2_here_39 (by decide) ?_
        exact W.iret (v := (S 0 (S 2 0).toNatClampNeg)) hx hb hr (fun t ht hW => ⟨_, rfl, h, ht⟩) (fun q hq => by cases hq) dX2_here_43
set_option maxHeartbeats 4000000 in
set_option maxRecDepth 100000 in
theorem c_X2_take (l : Launch) (D : va_G) (cy : ClassId) (ah : Nat → Nat) (sz : Nat) (i1 : Int32) (S : zT) {Q : zT → Prop} (h : wp_X2_take i1 S Q) : Met l yX2_take w_X2_take rm_X2_take (va_Pc [.ref (ah 99), .int i1] (zM D cy (bX2 ah cy S) sz)) (va_Qv (S := zT) (fun (u : zT) => Q u) (fun u t => va_P D zCl ((fun (u : zT) => (bX2 ah cy u)) u) t.heap) (va_A (bX2 ah cy S) sz)) 0 0 (va_A (bX2 ah cy S) sz) := by
  refine zOf_v (by decide) (Nat.le_of_ble_eq_true rfl) ?_
  intro p e s m below meth c ls A H locs hx hb hr hml hown htB hlocks hK hN hP hD hS hA hl
  replace hl : lv_has ls 2 [(0, .ref (ah 99)), (1, .int i1)] := hl
  have L11 : ∀ (S : zT), wpb_X2_take_11 i1 Q S → ∀ (H : Heap) (locs : List Loc), va_P D zCl (bX2 ah cy S) H → va_D A (bX2 ah cy S) → va_S A s.heap H locs → ∀ ls : Array Slot, lv_has ls 2 [(0, .ref (ah 99))] → W p l e rm_X2_take s m ([.ref (ah 99), .int i1] : List Value).toArray below meth c H locs 0 0 (MQ below (va_Qv (S := zT) (fun (u : zT) => Q u) (fun u t => va_P D zCl ((fun (u : zT) => (bX2 ah cy u)) u) t.heap) A) ([.ref (ah 99), .int i1] : List Value).toArray s 0 0 A) (F0 m 11 ls []) := by
    intro S h H locs hP hD hS ls hl
    refine lv_aload_n hx hb dX2_take_11 rfl (lv_at hl 0 rfl) ?_
    refine lv_iconst (v := (1 : Int32)) hx hb dX2_take_12 (by decide) ?_
    refine va_put (D := D) (ci := 2) (v := .int (1 : Int32)) (ty := .boolean) (C := RX2) (T := TX2) (N := 5) hx hb htB ziX2 tyX2 tyX2_ok nmX2 hown hK hP hD hS 0 rfl rfl 3 (by decide) (htB _ zm_96) (fun _ h9 => h9) rfl (tyX2_ok 3 (by decide)) rfl rfl (Nat.le_of_ble_eq_true rfl) dX2_take_13 (fun H locs hP hD hS => ?_)
    obtain ⟨S_13, eS_13⟩ : ∃ z : zT, z = (va_up S 3 (fun _ => (1 : Int32))) := ⟨_, rfl⟩
    replace h := h S_13 eS_13
    replace hP : va_P D zCl (bX2 ah cy S_13) H := by rw [eS_13]; exact hP
    replace hD : va_D A (bX2 ah cy S_13) := by rw [eS_13]; exact hD
    refine lv_goto (tgt := 29) hx hb dX2_take_16 (by decide) ?_
    exact W.vret hx hb hr (fun t ht hW => ⟨⟨S_13, rfl, h, zP_h ht hP⟩, hS.F ht⟩) hS.2.2 dX2_take_29
  refine lv_aload_n hx hb dX2_take_0 rfl (lv_at hl 0 rfl) ?_
  refine va_get (D := D) (ci := 2) (v := .int (S 3 0)) (C := RX2) (T := TX2) (N := 5) hx hb htB ziX2 hown hK hP 0 rfl rfl 3 (by decide) (htB _ zm_96) (fun _ h9 => h9) rfl dX2_take_1 ?_
  refine lv_if_ne (tgt := 11) hx hb dX2_take_4 (by decide) (fun c4 => ?_) (fun c4 => ?_)
  · replace h := And.right h c4
    exact L11 S h H locs hP hD hS ls (lv_sub hl [0] rfl)
  · replace h := And.left h c4
    refine lv_iload_n hx hb dX2_take_7 rfl (lv_at hl 1 rfl) ?_
    refine lv_if_ne (tgt := 19) hx hb dX2_take_8 (by decide) (fun c8 => ?_) (fun c8 => ?_)
    · replace h := And.right h c8
      refine lv_aload_n hx hb dX2_take_19 rfl (lv_at hl 0 rfl) ?_
      refine lv_dup hx hb dX2_take_20 rfl ?_
      refine va_get (D := D) (ci := 2) (v := .int (S 2 0)) (C := RX2) (T := TX2) (N := 5) hx hb htB ziX2 hown hK hP 0 rfl rfl 2 (by decide) (htB _ zm_95) (fun _ h9 => h9) rfl dX2_take_21 ?_
      refine lv_iconst (v := (1 : Int32)) hx hb dX2_take_24 (by decide) ?_
      refine lv_iadd hx hb dX2_take_25 ?_
      refine va_put (D := D) (ci := 2) (v := .int ((S 2 0) + (1 : Int32))) (ty := .int) (C := RX2) (T := TX2) (N := 5) hx hb htB ziX2 tyX2 tyX2_ok nmX2 hown hK hP hD hS 0 rfl rfl 2 (by decide) (htB _ zm_95) (fun _ h9 => h9) rfl (tyX2_ok 2 (by decide)) rfl rfl (Nat.le_of_ble_eq_true rfl) dX2_take_26 (fun H locs hP hD hS => ?_)
      obtain ⟨S_26, eS_26⟩ : ∃ z : zT, z = (va_up S 2 (fun _ => ((S 2 0) + (1 : Int32)))) := ⟨_, rfl⟩
      replace h := h S_26 eS_26
      replace hP : va_P D zCl (bX2 ah cy S_26) H := by rw [eS_26]; exact hP
      replace hD : va_D A (bX2 ah cy S_26) := by rw [eS_26]; exact hD
      exact W.vret hx hb hr (fun t ht hW => ⟨⟨S_26, rfl, h, zP_h ht hP⟩, hS.F ht⟩) hS.2.2 dX2_take_29
    · replace h := And.left h c8
      exact L11 S h H locs hP hD hS ls (lv_sub hl [0] rfl)
set_option maxHeartbeats 4000000 in
set_option maxRecDepth 100000 in
theorem c_X2_isDigitHere (l : Launch) (D : va_G) (cy : ClassId) (ah : Nat → Nat) (S : zT) {Q : Int32 → Prop} (h : wp_X2_isDigitHere S Q) : Met l yX2_isDigitHere w_X2_isDigitHere rm_X2_isDigitHere (va_Pc [.ref (ah 99)] (zR D cy (bX2 ah cy S))) (vp_Si Q) 0 0 (fun _ => False) := by
  refine zOf_r (by decide) (Nat.le_of_ble_eq_true rfl) ?_
  intro p e s m below meth c ls hx hb hr hml hown htB hlocks hK hN hP hl
  replace hl : lv_has ls 1 [(0, .ref (ah 99))] := hl
  refine lv_aload_n hx hb dX2_isDigitHere_0 rfl (lv_at hl 0 rfl) ?_
  refine zc_r (va_runV (As := []) (rest := []) ⟨hx, hb, hml, hown, htB⟩ (c_X2_here l D cy ah S h) (cwV 0 htB (zgV zm_97 zm_100 zm_101 zm_99 zm_98) rfl rfl rfl hd_X2_here ⟨Nat.le_of_ble_eq_true rfl, Nat.le_of_ble_eq_true rfl⟩) ⟨zR_blind, va_recv hK hP (ci := 2) (q0 := 0) rfl rfl, zR_pre hP hK hN⟩ rfl rfl hl.1 rfl (lv_room (Nat.le_of_ble_eq_true rfl)) dX2_isDigitHere_1 ⟨Nat.zero_le _, Nat.zero_le _⟩) (fun r1 h => ?_)
  refine lv_bipush (v := (48 : Int32)) hx hb dX2_isDigitHere_4 (by decide) ?_
  refine lv_icmp_lt (tgt := 22) hx hb dX2_isDigitHere_6 (by decide) (fun c6 => ?_) (fun c6 => ?_)
  · replace h := And.left h c6
    refine lv_iconst (v := (0 : Int32)) hx hb dX2_isDigitHere_22 (by decide) ?_
    exact W.zret (v := (0 : Int32)) hx hb hr rfl (fun t ht hW => ⟨_, rfl, h, ht⟩) (fun q hq => by cases hq) dX2_isDigitHere_23
  · replace h := And.right h c6
    refine lv_aload_n hx hb dX2_isDigitHere_9 rfl (lv_at hl 0 rfl) ?_
    refine zc_r (va_runV (As := []) (rest := []) ⟨hx, hb, hml, hown, htB⟩ (c_X2_here l D cy ah S h) (cwV 0 htB (zgV zm_97 zm_100 zm_101 zm_99 zm_98) rfl rfl rfl hd_X2_here ⟨Nat.le_of_ble_eq_true rfl, Nat.le_of_ble_eq_true rfl⟩) ⟨zR_blind, va_recv hK hP (ci := 2) (q0 := 0) rfl rfl, zR_pre hP hK hN⟩ rfl rfl hl.1 rfl (lv_room (Nat.le_of_ble_eq_true rfl)) dX2_isDigitHere_10 ⟨Nat.zero_le _, Nat.zero_le _⟩) (fun r10 h => ?_)
    refine lv_bipush (v := (57 : Int32)) hx hb dX2_isDigitHere_13 (by decide) ?_
    refine lv_icmp_gt (tgt := 22) hx hb dX2_isDigitHere_15 (by decide) (fun c15 => ?_) (fun c15 => ?_)
    · replace h := And.left h c15
      refine lv_iconst (v := (0 : Int32)) hx hb dX2_isDigitHere_22 (by decide) ?_
      exact W.zret (v := (0 : Int32)) hx hb hr rfl (fun t ht hW => ⟨_, rfl, h, ht⟩) (fun q hq => by cases hq) dX2_isDigitHere_23
    · replace h := And.right h c15
      refine lv_iconst (v := (1 : Int32)) hx hb dX2_isDigitHere_18 (by decide) ?_
      refine lv_goto (tgt := 23) hx hb dX2_isDigitHere_19 (by decide) ?_
      exact W.zret (v := (1 : Int32)) hx hb hr rfl (fun t ht hW => ⟨_, rfl, h, ht⟩) (fun q hq => by cases hq) dX2_isDigitHere_23
set_option maxHeartbeats 4000000 in
set_option maxRecDepth 100000 in
theorem c_X2_readDigits (l : Launch) (D : va_G) (cy : ClassId) (ah : Nat → Nat) (sz : Nat) (i1 : Int32) (i2 : Int32) (S : zT) {Q : zT → Prop} (h : wp_X2_readDigits i1 i2 S Q) : Met l yX2_readDigits w_X2_readDigits rm_X2_readDigits (va_Pc [.ref (ah 99), .int i1, .int i2] (zM D cy (bX2 ah cy S) sz)) (va_Qv (S := zT) (fun (u : zT) => Q u) (fun u t => va_P D zCl ((fun (u : zT) => (bX2 ah cy u)) u) t.heap) (va_A (bX2 ah cy S) sz)) 0 0 (va_A (bX2 ah cy S) sz) := by
  refine zOf_v (by decide) (Nat.le_of_ble_eq_true rfl) ?_
  intro p e s m below meth c ls A H locs hx hb hr hml hown htB hlocks hK hN hP hD hS hA hl
  replace hl : lv_has ls 4 [(0, .ref (ah 99)), (1, .int i1), (2, .int i2)] := hl
  have L2 : ∀ (k2 : Nat) (x3 : Int32) (S : zT), wpl_X2_readDigits_2 i1 i2 Q k2 x3 S → ∀ (H : Heap) (locs : List Loc), va_P D zCl (bX2 ah cy S) H → va_D A (bX2 ah cy S) → va_S A s.heap H locs → ∀ ls : Array Slot, lv_has ls 4 [(0, .ref (ah 99)), (2, .int i2), (3, .int x3)] → W p l e rm_X2_readDigits s m ([.ref (ah 99), .int i1, .int i2] : List Value).toArray below meth c H locs 0 0 (MQ below (va_Qv (S := zT) (fun (u : zT) => Q u) (fun u t => va_P D zCl ((fun (u : zT) => (bX2 ah cy u)) u) t.heap) A) ([.ref (ah 99), .int i1, .int i2] : List Value).toArray s 0 0 A) (F0 m 2 ls []) := by
    intro k2
    induction k2 with
    | zero => exact fun x3 S h => False.elim h
    | succ k2 ih2 =>
      intro x3 S h H locs hP hD hS ls hl
      refine lv_iload_n hx hb dX2_readDigits_2 rfl (lv_at hl 2 rfl) ?_
      refine lv_iload_n hx hb dX2_readDigits_3 rfl (lv_at hl 1 rfl) ?_
      refine lv_icmp_gt (tgt := 36) hx hb dX2_readDigits_4 (by decide) (fun c4 => ?_) (fun c4 => ?_)
      · replace h := And.left h c4
        exact W.vret hx hb hr (fun t ht hW => ⟨⟨S, rfl, h, zP_h ht hP⟩, hS.F ht⟩) hS.2.2 dX2_readDigits_36
      · replace h := And.right h c4
        refine lv_aload_n hx hb dX2_readDigits_7 rfl (lv_at hl 0 rfl) ?_
        refine va_get (D := D) (ci := 2) (v := .ref (ah 4)) (C := RX2) (T := TX2) (N := 5) hx hb htB ziX2 hown hK hP 0 rfl rfl 4 (by decide) (htB _ zm_102) (fun _ h9 => h9) rfl dX2_readDigits_8 ?_
        refine lv_iload_n hx hb dX2_readDigits_11 rfl (lv_at hl 2 rfl) ?_
        refine lv_aload_n hx hb dX2_readDigits_12 rfl (lv_at hl 0 rfl) ?_
        refine zc_r (va_runV (As := []) (rest := [.int x3, .ref (ah 4)]) ⟨hx, hb, hml, hown, htB⟩ (c_X2_here l D cy ah S h) (cwV 0 htB (zgV zm_97 zm_100 zm_101 zm_99 zm_98) rfl rfl rfl hd_X2_here ⟨Nat.le_of_ble_eq_true rfl, Nat.le_of_ble_eq_true rfl⟩) ⟨zR_blind, va_recv hK hP (ci := 2) (q0 := 0) rfl rfl, zR_pre hP hK hN⟩ rfl rfl hl.1 rfl (lv_room (Nat.le_of_ble_eq_true rfl)) dX2_readDigits_13 ⟨Nat.zero_le _, Nat.zero_le _⟩) (fun r13 h => ?_)
        refine lv_bipush (v := (48 : Int32)) hx hb dX2_readDigits_16 (by decide) ?_
        refine lv_isub hx hb dX2_readDigits_18 ?_
        have hPc : va_P D zCl [((ah 4), .inl (cy, 7, .inl (S 4)))] H := hP.sub [2] rfl
        have hDc : va_D A [((ah 4), .inl (cy, 7, .inl (S 4)))] := hD.sub [2] (by decide) rfl
        refine zc_v (ws' := fun u => (bX2 ah cy (va_up S 4 u))) (va_runSN (As := [.ref (ah 4), .int x3, .int (r13 - (48 : Int32))]) (rest := []) ⟨hx, hb, hml, hown, htB⟩ (c_X4_put l D cy (ah 4) H.size 7 x3 (r13 - (48 : Int32)) (S 4) h) ⟨va_cnB 3 htB (zgN zm_3) rfl rfl rfl (hN _ zm_94) (htB _ zm_4) hd_X4_put.2 ⟨Nat.le_of_ble_eq_true rfl, Nat.le_of_ble_eq_true rfl⟩, htB _ zm_5, trivial⟩ ⟨zM_blind, zM_pre hPc hK hN hDc⟩ rfl rfl hl.1 rfl (lv_room (Nat.le_of_ble_eq_true rfl)) dX2_readDigits_19 ⟨Nat.zero_le _, Nat.zero_le _⟩) hS hA hP hD [2] [0, 1] [0, 1, 2] (by decide) rfl (by decide) (by decide) rfl (fun u => rfl) (fun u => rfl) (fun u => rfl) (fun u H locs h hP hD hS => ?_)
        obtain ⟨gf0_19, eu⟩ : ∃ z, z = u := ⟨_, rfl⟩
        subst eu
        replace hP : va_P D zCl (bX2 ah cy (va_up S 4 gf0_19)) H := hP
        replace hD : va_D A (bX2 ah cy (va_up S 4 gf0_19)) := hD
        obtain ⟨S_19, eS_19⟩ : ∃ z : zT, z = (va_up S 4 gf0_19) := ⟨_, rfl⟩
        replace h := h S_19 eS_19
        replace hP : va_P D zCl (bX2 ah cy S_19) H := by rw [eS_19]; exact hP
        replace hD : va_D A (bX2 ah cy S_19) := by rw [eS_19]; exact hD
        refine lv_aload_n hx hb dX2_readDigits_22 rfl (lv_at hl 0 rfl) ?_
        refine lv_aload_n hx hb dX2_readDigits_23 rfl (lv_at hl 0 rfl) ?_
        refine zc_r (va_runV (As := []) (rest := [.ref (ah 99)]) ⟨hx, hb, hml, hown, htB⟩ (c_X2_isDigitHere l D cy ah S_19 h) (cwV 0 htB (zgV zm_103 zm_105 zm_106 zm_99 zm_104) rfl rfl rfl hd_X2_isDigitHere ⟨Nat.le_of_ble_eq_true rfl, Nat.le_of_ble_eq_true rfl⟩) ⟨zR_blind, va_recv hK hP (ci := 2) (q0 := 0) rfl rfl, zR_pre hP hK hN⟩ rfl rfl hl.1 rfl (lv_room (Nat.le_of_ble_eq_true rfl)) dX2_readDigits_24 ⟨Nat.zero_le _, Nat.zero_le _⟩) (fun r24 h => ?_)
        refine zc_vf (ws' := fun u => (bX2 ah cy u)) (va_runV (As := [.int r24]) (rest := []) ⟨hx, hb, hml, hown, htB⟩ (c_X2_take l D cy ah H.size r24 S_19 h) (cwV 1 htB (zgV zm_107 zm_109 zm_110 zm_99 zm_108) rfl rfl rfl hd_X2_take ⟨Nat.le_of_ble_eq_true rfl, Nat.le_of_ble_eq_true rfl⟩) ⟨zM_blind, va_recv hK hP (ci := 2) (q0 := 0) rfl rfl, zM_pre hP hK hN hD⟩ rfl rfl hl.1 rfl (lv_room (Nat.le_of_ble_eq_true rfl)) dX2_readDigits_27 ⟨Nat.zero_le _, Nat.zero_le _⟩) hS hA hP hD (fun u => rfl) (fun u => rfl) (fun u H locs h hP hD hS => ?_)
        obtain ⟨S_27, eu⟩ : ∃ z, z = u := ⟨_, rfl⟩
        subst eu
        replace hP : va_P D zCl (bX2 ah cy S_27) H := hP
        replace hD : va_D A (bX2 ah cy S_27) := hD
        obtain ⟨y30, ey30⟩ : ∃ z : Int32, z = (x3 + (1 : Int32)) := ⟨_, rfl⟩
        replace h := h y30 ey30
        refine lv_iinc (v := y30) (lv' := [(3, .int y30), (0, .ref (ah 99)), (2, .int i2)]) hx hb dX2_readDigits_30 hl (k := 2) rfl (by rw [ey30]; rfl) (by decide) rfl (fun ls hl => ?_)
        refine lv_goto (tgt := 2) hx hb dX2_readDigits_33 (by decide) ?_
        exact ih2 y30 S_27 h H locs hP hD hS ls (lv_sub hl [1, 2, 0] rfl)
  refine lv_iload_n hx hb dX2_readDigits_0 rfl (lv_at hl 1 rfl) ?_
  refine lv_istore_n (lv' := [(3, .int i1), (0, .ref (ah 99)), (1, .int i1), (2, .int i2)]) hx hb dX2_readDigits_1 rfl hl (by decide) rfl (fun ls hl => ?_)
  obtain ⟨nn, h⟩ := h
  exact L2 nn i1 S h H locs hP hD hS ls (lv_sub hl [1, 3, 0] rfl)
set_option maxHeartbeats 4000000 in
set_option maxRecDepth 100000 in
theorem c_X2_readNumber (l : Launch) (D : va_G) (cy : ClassId) (ah : Nat → Nat) (sz : Nat) (i1 : Int32) (S : zT) {Q : zT → Prop} (h : wp_X2_readNumber i1 S Q) : Met l yX2_readNumber w_X2_readNumber rm_X2_readNumber (va_Pc [.ref (ah 99), .int i1] (zM D cy (bX2 ah cy S) sz)) (va_Qv (S := zT) (fun (u : zT) => Q u) (fun u t => va_P D zCl ((fun (u : zT) => (bX2 ah cy u)) u) t.heap) (va_A (bX2 ah cy S) sz)) 0 0 (va_A (bX2 ah cy S) sz) := by
  refine zOf_v (by decide) (Nat.le_of_ble_eq_true rfl) ?_
  intro p e s m below meth c ls A H locs hx hb hr hml hown htB hlocks hK hN hP hD hS hA hl
  replace hl : lv_has ls 2 [(0, .ref (ah 99)), (1, .int i1)] := hl
  refine lv_aload_n hx hb dX2_readNumber_0 rfl (lv_at hl 0 rfl) ?_
  refine lv_iload_n hx hb dX2_readNumber_1 rfl (lv_at hl 1 rfl) ?_
  refine lv_iload_n hx hb dX2_readNumber_2 rfl (lv_at hl 1 rfl) ?_
  refine zc_vf (ws' := fun u => (bX2 ah cy u)) (va_runV (As := [.int i1, .int i1]) (rest := []) ⟨hx, hb, hml, hown, htB⟩ (c_X2_readDigits l D cy ah H.size i1 i1 S h) (cwV 2 htB (zgV zm_111 zm_113 zm_114 zm_99 zm_112) rfl rfl rfl hd_X2_readDigits ⟨Nat.le_of_ble_eq_true rfl, Nat.le_of_ble_eq_true rfl⟩) ⟨zM_blind, va_recv hK hP (ci := 2) (q0 := 0) rfl rfl, zM_pre hP hK hN hD⟩ rfl rfl hl.1 rfl (lv_room (Nat.le_of_ble_eq_true rfl)) dX2_readNumber_3 ⟨Nat.zero_le _, Nat.zero_le _⟩) hS hA hP hD (fun u => rfl) (fun u => rfl) (fun u H locs h hP hD hS => ?_)
  obtain ⟨S_3, eu⟩ : ∃ z, z = u := ⟨_, rfl⟩
  subst eu
  replace hP : va_P D zCl (bX2 ah cy S_3) H := hP
  replace hD : va_D A (bX2 ah cy S_3) := hD
  refine lv_aload_n hx hb dX2_readNumber_6 rfl (lv_at hl 0 rfl) ?_
  refine va_get (D := D) (ci := 2) (v := .int (S_3 3 0)) (C := RX2) (T := TX2) (N := 5) hx hb htB ziX2 hown hK hP 0 rfl rfl 3 (by decide) (htB _ zm_96) (fun _ h9 => h9) rfl dX2_readNumber_7 ?_
  refine lv_if_ne (tgt := 57) hx hb dX2_readNumber_10 (by decide) (fun c10 => ?_) (fun c10 => ?_)
  · replace h := And.right h c10
    exact W.vret hx hb hr (fun t ht hW => ⟨⟨S_3, rfl, h, zP_h ht hP⟩, hS.F ht⟩) hS.2.2 dX2_readNumber_57
  · replace h := And.left h c10
    refine lv_aload_n hx hb dX2_readNumber_13 rfl (lv_at hl 0 rfl) ?_
    refine zc_r (va_runV (As := []) (rest := []) ⟨hx, hb, hml, hown, htB⟩ (c_X2_isDigitHere l D cy ah S_3 h) (cwV 0 htB (zgV zm_103 zm_105 zm_106 zm_99 zm_104) rfl rfl rfl hd_X2_isDigitHere ⟨Nat.le_of_ble_eq_true rfl, Nat.le_of_ble_eq_true rfl⟩) ⟨zR_blind, va_recv hK hP (ci := 2) (q0 := 0) rfl rfl, zR_pre hP hK hN⟩ rfl rfl hl.1 rfl (lv_room (Nat.le_of_ble_eq_true rfl)) dX2_readNumber_14 ⟨Nat.zero_le _, Nat.zero_le _⟩) (fun r14 h => ?_)
    refine lv_if_eq (tgt := 57) hx hb dX2_readNumber_17 (by decide) (fun c17 => ?_) (fun c17 => ?_)
    · replace h := And.left h c17
      exact W.vret hx hb hr (fun t ht hW => ⟨⟨S_3, rfl, h, zP_h ht hP⟩, hS.F ht⟩) hS.2.2 dX2_readNumber_57
    · replace h := And.right h c17
      refine lv_aload_n hx hb dX2_readNumber_20 rfl (lv_at hl 0 rfl) ?_
      refine va_get (D := D) (ci := 2) (v := .ref (ah 4)) (C := RX2) (T := TX2) (N := 5) hx hb htB ziX2 hown hK hP 0 rfl rfl 4 (by decide) (htB _ zm_102) (fun _ h9 => h9) rfl dX2_readNumber_21 ?_
      refine lv_iload_n hx hb dX2_readNumber_24 rfl (lv_at hl 1 rfl) ?_
      refine lv_aload_n hx hb dX2_readNumber_25 rfl (lv_at hl 0 rfl) ?_
      refine va_get (D := D) (ci := 2) (v := .ref (ah 4)) (C := RX2) (T := TX2) (N := 5) hx hb htB ziX2 hown hK hP 0 rfl rfl 4 (by decide) (htB _ zm_102) (fun _ h9 => h9) rfl dX2_readNumber_26 ?_
      refine lv_iload_n hx hb dX2_readNumber_29 rfl (lv_at hl 1 rfl) ?_
      have hPc : va_P D zCl [((ah 4), .inl (cy, 7, .inl (S_3 4)))] H := hP.sub [2] rfl
      refine zc_r (va_runSN (As := [.ref (ah 4), .int i1]) (rest := [.int i1, .ref (ah 4)]) ⟨hx, hb, hml, hown, htB⟩ (c_X4_at l D cy (ah 4) 7 (S_3 4) i1 h) ⟨va_cnB 2 htB (zgN zm_13) rfl rfl rfl (hN _ zm_115) (htB _ zm_4) hd_X4_at.2 ⟨Nat.le_of_ble_eq_true rfl, Nat.le_of_ble_eq_true rfl⟩, htB _ zm_14, trivial⟩ ⟨zR_blind, zR_pre hPc hK hN⟩ rfl rfl hl.1 rfl (lv_room (Nat.le_of_ble_eq_true rfl)) dX2_readNumber_30 ⟨Nat.zero_le _, Nat.zero_le _⟩) (fun r30 h => ?_)
      refine lv_bipush (v := (10 : Int32)) hx hb dX2_readNumber_33 (by decide) ?_
      refine lv_imul hx hb dX2_readNumber_35 ?_
      refine lv_aload_n hx hb dX2_readNumber_36 rfl (lv_at hl 0 rfl) ?_
      refine zc_r (va_runV (As := []) (rest := [.int (r30 * (10 : Int32)), .int i1, .ref (ah 4)]) ⟨hx, hb, hml, hown, htB⟩ (c_X2_here l D cy ah S_3 h) (cwV 0 htB (zgV zm_97 zm_100 zm_101 zm_99 zm_98) rfl rfl rfl hd_X2_here ⟨Nat.le_of_ble_eq_true rfl, Nat.le_of_ble_eq_true rfl⟩) ⟨zR_blind, va_recv hK hP (ci := 2) (q0 := 0) rfl rfl, zR_pre hP hK hN⟩ rfl rfl hl.1 rfl (lv_room (Nat.le_of_ble_eq_true rfl)) dX2_readNumber_37 ⟨Nat.zero_le _, Nat.zero_le _⟩) (fun r37 h => ?_)
      refine lv_iadd hx hb dX2_readNumber_40 ?_
      refine lv_bipush (v := (48 : Int32)) hx hb dX2_readNumber_41 (by decide) ?_
      refine lv_isub hx hb dX2_readNumber_43 ?_
      have hPc : va_P D zCl [((ah 4), .inl (cy, 7, .inl (S_3 4)))] H := hP.sub [2] rfl
      have hDc : va_D A [((ah 4), .inl (cy, 7, .inl (S_3 4)))] := hD.sub [2] (by decide) rfl
      refine zc_v (ws' := fun u => (bX2 ah cy (va_up S_3 4 u))) (va_runSN (As := [.ref (ah 4), .int i1, .int (((r30 * (10 : Int32)) + r37) - (48 : Int32))]) (rest := []) ⟨hx, hb, hml, hown, htB⟩ (c_X4_put l D cy (ah 4) H.size 7 i1 (((r30 * (10 : Int32)) + r37) - (48 : Int32)) (S_3 4) h) ⟨va_cnB 3 htB (zgN zm_3) rfl rfl rfl (hN _ zm_94) (htB _ zm_4) hd_X4_put.2 ⟨Nat.le_of_ble_eq_true rfl, Nat.le_of_ble_eq_true rfl⟩, htB _ zm_5, trivial⟩ ⟨zM_blind, zM_pre hPc hK hN hDc⟩ rfl rfl hl.1 rfl (lv_room (Nat.le_of_ble_eq_true rfl)) dX2_readNumber_44 ⟨Nat.zero_le _, Nat.zero_le _⟩) hS hA hP hD [2] [0, 1] [0, 1, 2] (by decide) rfl (by decide) (by decide) rfl (fun u => rfl) (fun u => rfl) (fun u => rfl) (fun u H locs h hP hD hS => ?_)
      obtain ⟨gf0_44, eu⟩ : ∃ z, z = u := ⟨_, rfl⟩
      subst eu
      replace hP : va_P D zCl (bX2 ah cy (va_up S_3 4 gf0_44)) H := hP
      replace hD : va_D A (bX2 ah cy (va_up S_3 4 gf0_44)) := hD
      obtain ⟨S_44, eS_44⟩ : ∃ z : zT, z = (va_up S_3 4 gf0_44) := ⟨_, rfl⟩
      replace h := h S_44 eS_44
      replace hP : va_P D zCl (bX2 ah cy S_44) H := by rw [eS_44]; exact hP
      replace hD : va_D A (bX2 ah cy S_44) := by rw [eS_44]; exact hD
      refine lv_aload_n hx hb dX2_readNumber_47 rfl (lv_at hl 0 rfl) ?_
      refine lv_dup hx hb dX2_readNumber_48 rfl ?_
      refine va_get (D := D) (ci := 2) (v := .int (S_44 2 0)) (C := RX2) (T := TX2) (N := 5) hx hb htB ziX2 hown hK hP 0 rfl rfl 2 (by decide) (htB _ zm_95) (fun _ h9 => h9) rfl dX2_readNumber_49 ?_
      refine lv_iconst (v := (1 : Int32)) hx hb dX2_readNumber_52 (by decide) ?_
      refine lv_iadd hx hb dX2_readNumber_53 ?_
      refine va_put (D := D) (ci := 2) (v := .int ((S_44 2 0) + (1 : Int32))) (ty := .int) (C := RX2) (T := TX2) (N := 5) hx hb htB ziX2 tyX2 tyX2_ok nmX2 hown hK hP hD hS 0 rfl rfl 2 (by decide) (htB _ zm_95) (fun _ h9 => h9) rfl (tyX2_ok 2 (by decide)) rfl rfl (Nat.le_of_ble_eq_true rfl) dX2_readNumber_54 (fun H locs hP hD hS => ?_)
      obtain ⟨S_54, eS_54⟩ : ∃ z : zT, z = (va_up S_44 2 (fun _ => ((S_44 2 0) + (1 : Int32)))) := ⟨_, rfl⟩
      replace h := h S_54 eS_54
      replace hP : va_P D zCl (bX2 ah cy S_54) H := by rw [eS_54]; exact hP
      replace hD : va_D A (bX2 ah cy S_54) := by rw [eS_54]; exact hD
      exact W.vret hx hb hr (fun t ht hW => ⟨⟨S_54, rfl, h, zP_h ht hP⟩, hS.F ht⟩) hS.2.2 dX2_readNumber_57
set_option maxHeartbeats 4000000 in
set_option maxRecDepth 100000 in
theorem c_X2_readSign (l : Launch) (D : va_G) (cy : ClassId) (ah : Nat → Nat) (sz : Nat) (i1 : Int32) (S : zT) {Q : zT → Prop} (h : wp_X2_readSign i1 S Q) : Met l yX2_readSign w_X2_readSign rm_X2_readSign (va_Pc [.ref (ah 99), .int i1] (zM D cy (bX2 ah cy S) sz)) (va_Qv (S := zT) (fun (u : zT) => Q u) (fun u t => va_P D zCl ((fun (u : zT) => (bX2 ah cy u)) u) t.heap) (va_A (bX2 ah cy S) sz)) 0 0 (va_A (bX2 ah cy S) sz) := by
  refine zOf_v (by decide) (Nat.le_of_ble_eq_true rfl) ?_
  intro p e s m below meth c ls A H locs hx hb hr hml hown htB hlocks hK hN hP hD hS hA hl
  replace hl : lv_has ls 2 [(0, .ref (ah 99)), (1, .int i1)] := hl
  have L14 : ∀ (t1 : Int32) (S : zT), wpb_X2_readSign_14 i1 Q t1 S → ∀ (H : Heap) (locs : List Loc), va_P D zCl (bX2 ah cy S) H → va_D A (bX2 ah cy S) → va_S A s.heap H locs → ∀ ls : Array Slot, lv_has ls 2 [(0, .ref (ah 99))] → W p l e rm_X2_readSign s m ([.ref (ah 99), .int i1] : List Value).toArray below meth c H locs 0 0 (MQ below (va_Qv (S := zT) (fun (u : zT) => Q u) (fun u t => va_P D zCl ((fun (u : zT) => (bX2 ah cy u)) u) t.heap) A) ([.ref (ah 99), .int i1] : List Value).toArray s 0 0 A) (F0 m 14 ls [.int t1, .ref (ah 99)]) := by
    intro t1 S h H locs hP hD hS ls hl
    refine zc_vf (ws' := fun u => (bX2 ah cy u)) (va_runV (As := [.int t1]) (rest := []) ⟨hx, hb, hml, hown, htB⟩ (c_X2_take l D cy ah H.size t1 S h) (cwV 1 htB (zgV zm_107 zm_109 zm_110 zm_99 zm_108) rfl rfl rfl hd_X2_take ⟨Nat.le_of_ble_eq_true rfl, Nat.le_of_ble_eq_true rfl⟩) ⟨zM_blind, va_recv hK hP (ci := 2) (q0 := 0) rfl rfl, zM_pre hP hK hN hD⟩ rfl rfl hl.1 rfl (lv_room (Nat.le_of_ble_eq_true rfl)) dX2_readSign_14 ⟨Nat.zero_le _, Nat.zero_le _⟩) hS hA hP hD (fun u => rfl) (fun u => rfl) (fun u H locs h hP hD hS => ?_)
    obtain ⟨S_14, eu⟩ : ∃ z, z = u := ⟨_, rfl⟩
    subst eu
    replace hP : va_P D zCl (bX2 ah cy S_14) H := hP
    replace hD : va_D A (bX2 ah cy S_14) := hD
    exact W.vret hx hb hr (fun t ht hW => ⟨⟨S_14, rfl, h, zP_h ht hP⟩, hS.F ht⟩) hS.2.2 dX2_readSign_17
  refine lv_aload_n hx hb dX2_readSign_0 rfl (lv_at hl 0 rfl) ?_
  refine lv_aload_n hx hb dX2_readSign_1 rfl (lv_at hl 0 rfl) ?_
  refine zc_r (va_runV (As := []) (rest := [.ref (ah 99)]) ⟨hx, hb, hml, hown, htB⟩ (c_X2_here l D cy ah S h) (cwV 0 htB (zgV zm_97 zm_100 zm_101 zm_99 zm_98) rfl rfl rfl hd_X2_here ⟨Nat.le_of_ble_eq_true rfl, Nat.le_of_ble_eq_true rfl⟩) ⟨zR_blind, va_recv hK hP (ci := 2) (q0 := 0) rfl rfl, zR_pre hP hK hN⟩ rfl rfl hl.1 rfl (lv_room (Nat.le_of_ble_eq_true rfl)) dX2_readSign_2 ⟨Nat.zero_le _, Nat.zero_le _⟩) (fun r2 h => ?_)
  refine lv_iload_n hx hb dX2_readSign_5 rfl (lv_at hl 1 rfl) ?_
  refine lv_icmp_ne (tgt := 13) hx hb dX2_readSign_6 (by decide) (fun c6 => ?_) (fun c6 => ?_)
  · replace h := And.right h c6
    refine lv_iconst (v := (0 : Int32)) hx hb dX2_readSign_13 (by decide) ?_
    exact L14 (0 : Int32) S h H locs hP hD hS ls (lv_sub hl [0] rfl)
  · replace h := And.left h c6
    refine lv_iconst (v := (1 : Int32)) hx hb dX2_readSign_9 (by decide) ?_
    refine lv_goto (tgt := 14) hx hb dX2_readSign_10 (by decide) ?_
    exact L14 (1 : Int32) S h H locs hP hD hS ls (lv_sub hl [0] rfl)
set_option maxHeartbeats 4000000 in
set_option maxRecDepth 100000 in
theorem c_X4_isBit (l : Launch) (D : va_G) (cy : ClassId)  (i0 : Int32) {Q : Int32 → Prop} (h : wp_X4_isBit i0 Q) : Met l yX4_isBit w_X4_isBit rm_X4_isBit (va_Pc [.int i0] (zR D cy ([] : va_W))) (vp_Si Q) 0 0 (fun _ => False) := by
  refine zOf_r (by decide) (Nat.le_of_ble_eq_true rfl) ?_
  intro p e s m below meth c ls hx hb hr hml hown htB hlocks hK hN hP hl
  replace hl : lv_has ls 1 [(0, .int i0)] := hl
  have L9 : wpb_X4_isBit_9 i0 Q → ∀ ls : Array Slot, lv_has ls 1 [] → W p l e rm_X4_isBit s m ([.int i0] : List Value).toArray below meth c s.heap [] 0 0 (MQ below (vp_Si Q) ([.int i0] : List Value).toArray s 0 0 (fun _ => False)) (F0 m 9 ls []) := by
    intro  h ls hl
    refine lv_iconst (v := (1 : Int32)) hx hb dX4_isBit_9 (by decide) ?_
    refine lv_goto (tgt := 14) hx hb dX4_isBit_10 (by decide) ?_
    exact W.zret (v := (1 : Int32)) hx hb hr rfl (fun t ht hW => ⟨_, rfl, h, ht⟩) (fun q hq => by cases hq) dX4_isBit_14
  refine lv_iload_n hx hb dX4_isBit_0 rfl (lv_at hl 0 rfl) ?_
  refine lv_if_eq (tgt := 9) hx hb dX4_isBit_1 (by decide) (fun c1 => ?_) (fun c1 => ?_)
  · replace h := And.left h c1
    exact L9  h ls (lv_sub hl [] rfl)
  · replace h := And.right h c1
    refine lv_iload_n hx hb dX4_isBit_4 rfl (lv_at hl 0 rfl) ?_
    refine lv_iconst (v := (1 : Int32)) hx hb dX4_isBit_5 (by decide) ?_
    refine lv_icmp_ne (tgt := 13) hx hb dX4_isBit_6 (by decide) (fun c6 => ?_) (fun c6 => ?_)
    · replace h := And.right h c6
      refine lv_iconst (v := (0 : Int32)) hx hb dX4_isBit_13 (by decide) ?_
      exact W.zret (v := (0 : Int32)) hx hb hr rfl (fun t ht hW => ⟨_, rfl, h, ht⟩) (fun q hq => by cases hq) dX4_isBit_14
    · replace h := And.left h c6
      exact L9  h ls (lv_sub hl [] rfl)
set_option maxHeartbeats 4000000 in
set_option maxRecDepth 100000 in
theorem c_X4_isCustom (l : Launch) (D : va_G) (cy : ClassId)  (i0 : Int32) {Q : Int32 → Prop} (h : wp_X4_isCustom i0 Q) : Met l yX4_isCustom w_X4_isCustom rm_X4_isCustom (va_Pc [.int i0] (zR D cy ([] : va_W))) (vp_Si Q) 0 0 (fun _ => False) := by
  refine zOf_r (by decide) (Nat.le_of_ble_eq_true rfl) ?_
  intro p e s m below meth c ls hx hb hr hml hown htB hlocks hK hN hP hl
  replace hl : lv_has ls 1 [(0, .int i0)] := hl
  refine lv_iload_n hx hb dX4_isCustom_0 rfl (lv_at hl 0 rfl) ?_
  refine lv_if_lt (tgt := 14) hx hb dX4_isCustom_1 (by decide) (fun c1 => ?_) (fun c1 => ?_)
  · replace h := And.left h c1
    refine lv_iconst (v := (0 : Int32)) hx hb dX4_isCustom_14 (by decide) ?_
    exact W.zret (v := (0 : Int32)) hx hb hr rfl (fun t ht hW => ⟨_, rfl, h, ht⟩) (fun q hq => by cases hq) dX4_isCustom_15
  · replace h := And.right h c1
    refine lv_iload_n hx hb dX4_isCustom_4 rfl (lv_at hl 0 rfl) ?_
    refine lv_bipush (v := (6 : Int32)) hx hb dX4_isCustom_5 (by decide) ?_
    refine lv_icmp_gt (tgt := 14) hx hb dX4_isCustom_7 (by decide) (fun c7 => ?_) (fun c7 => ?_)
    · replace h := And.left h c7
      refine lv_iconst (v := (0 : Int32)) hx hb dX4_isCustom_14 (by decide) ?_
      exact W.zret (v := (0 : Int32)) hx hb hr rfl (fun t ht hW => ⟨_, rfl, h, ht⟩) (fun q hq => by cases hq) dX4_isCustom_15
    · replace h := And.right h c7
      refine lv_iconst (v := (1 : Int32)) hx hb dX4_isCustom_10 (by decide) ?_
      refine lv_goto (tgt := 15) hx hb dX4_isCustom_11 (by decide) ?_
      exact W.zret (v := (1 : Int32)) hx hb hr rfl (fun t ht hW => ⟨_, rfl, h, ht⟩) (fun q hq => by cases hq) dX4_isCustom_15
set_option maxHeartbeats 4000000 in
set_option maxRecDepth 100000 in
theorem c_X2_isAsItMustBe (l : Launch) (D : va_G) (cy : ClassId) (ah : Nat → Nat) (S : zT) (i1 : Int32) (i2 : Int32) {Q : Int32 → Prop} (h : wp_X2_isAsItMustBe S i1 i2 Q) : Met l yX2_isAsItMustBe w_X2_isAsItMustBe rm_X2_isAsItMustBe (va_Pc [.ref (ah 99), .int i1, .int i2] (zR D cy (bX2 ah cy S))) (vp_Si Q) 0 0 (fun _ => False) := by
  refine zOf_r (by decide) (Nat.le_of_ble_eq_true rfl) ?_
  intro p e s m below meth c ls hx hb hr hml hown htB hlocks hK hN hP hl
  replace hl : lv_has ls 3 [(0, .ref (ah 99)), (1, .int i1), (2, .int i2)] := hl
  refine lv_iload_n hx hb dX2_isAsItMustBe_0 rfl (lv_at hl 1 rfl) ?_
  refine lv_bipush (v := (100 : Int32)) hx hb dX2_isAsItMustBe_1 (by decide) ?_
  refine lv_icmp_ne (tgt := 24) hx hb dX2_isAsItMustBe_3 (by decide) (fun c3 => ?_) (fun c3 => ?_)
  · replace h := And.right h c3
    refine lv_iload_n hx hb dX2_isAsItMustBe_24 rfl (lv_at hl 1 rfl) ?_
    refine lv_bipush (v := (99 : Int32)) hx hb dX2_isAsItMustBe_25 (by decide) ?_
    refine lv_icmp_ne (tgt := 63) hx hb dX2_isAsItMustBe_27 (by decide) (fun c27 => ?_) (fun c27 => ?_)
    · replace h := And.right h c27
      refine lv_iload_n hx hb dX2_isAsItMustBe_63 rfl (lv_at hl 2 rfl) ?_
      refine lv_bipush (v := (8 : Int32)) hx hb dX2_isAsItMustBe_64 (by decide) ?_
      refine lv_icmp_ge (tgt := 148) hx hb dX2_isAsItMustBe_66 (by decide) (fun c66 => ?_) (fun c66 => ?_)
      · replace h := And.left h c66
        refine lv_iconst (v := (0 : Int32)) hx hb dX2_isAsItMustBe_148 (by decide) ?_
        exact W.zret (v := (0 : Int32)) hx hb hr rfl (fun t ht hW => ⟨_, rfl, h, ht⟩) (fun q hq => by cases hq) dX2_isAsItMustBe_149
      · replace h := And.right h c66
        refine lv_aload_n hx hb dX2_isAsItMustBe_69 rfl (lv_at hl 0 rfl) ?_
        refine va_get (D := D) (ci := 2) (v := .ref (ah 4)) (C := RX2) (T := TX2) (N := 5) hx hb htB ziX2 hown hK hP 0 rfl rfl 4 (by decide) (htB _ zm_102) (fun _ h9 => h9) rfl dX2_isAsItMustBe_70 ?_
        refine lv_iconst (v := (2 : Int32)) hx hb dX2_isAsItMustBe_73 (by decide) ?_
        have hPc : va_P D zCl [((ah 4), .inl (cy, 7, .inl (S 4)))] s.heap := hP.sub [2] rfl
        refine zc_r (va_runSN (As := [.ref (ah 4), .int (2 : Int32)]) (rest := []) ⟨hx, hb, hml, hown, htB⟩ (c_X4_at l D cy (ah 4) 7 (S 4) (2 : Int32) h) ⟨va_cnB 2 htB (zgN zm_13) rfl rfl rfl (hN _ zm_115) (htB _ zm_4) hd_X4_at.2 ⟨Nat.le_of_ble_eq_true rfl, Nat.le_of_ble_eq_true rfl⟩, htB _ zm_14, trivial⟩ ⟨zR_blind, zR_pre hPc hK hN⟩ rfl rfl hl.1 rfl (lv_room (Nat.le_of_ble_eq_true rfl)) dX2_isAsItMustBe_74 ⟨Nat.zero_le _, Nat.zero_le _⟩) (fun r74 h => ?_)
        refine lv_iconst (v := (1 : Int32)) hx hb dX2_isAsItMustBe_77 (by decide) ?_
        refine lv_icmp_lt (tgt := 148) hx hb dX2_isAsItMustBe_78 (by decide) (fun c78 => ?_) (fun c78 => ?_)
        · replace h := And.left h c78
          refine lv_iconst (v := (0 : Int32)) hx hb dX2_isAsItMustBe_148 (by decide) ?_
          exact W.zret (v := (0 : Int32)) hx hb hr rfl (fun t ht hW => ⟨_, rfl, h, ht⟩) (fun q hq => by cases hq) dX2_isAsItMustBe_149
        · replace h := And.right h c78
          refine lv_aload_n hx hb dX2_isAsItMustBe_81 rfl (lv_at hl 0 rfl) ?_
          refine va_get (D := D) (ci := 2) (v := .ref (ah 4)) (C := RX2) (T := TX2) (N := 5) hx hb htB ziX2 hown hK hP 0 rfl rfl 4 (by decide) (htB _ zm_102) (fun _ h9 => h9) rfl dX2_isAsItMustBe_82 ?_
          refine lv_iconst (v := (2 : Int32)) hx hb dX2_isAsItMustBe_85 (by decide) ?_
          have hPc : va_P D zCl [((ah 4), .inl (cy, 7, .inl (S 4)))] s.heap := hP.sub [2] rfl
          refine zc_r (va_runSN (As := [.ref (ah 4), .int (2 : Int32)]) (rest := []) ⟨hx, hb, hml, hown, htB⟩ (c_X4_at l D cy (ah 4) 7 (S 4) (2 : Int32) h) ⟨va_cnB 2 htB (zgN zm_13) rfl rfl rfl (hN _ zm_115) (htB _ zm_4) hd_X4_at.2 ⟨Nat.le_of_ble_eq_true rfl, Nat.le_of_ble_eq_true rfl⟩, htB _ zm_14, trivial⟩ ⟨zR_blind, zR_pre hPc hK hN⟩ rfl rfl hl.1 rfl (lv_room (Nat.le_of_ble_eq_true rfl)) dX2_isAsItMustBe_86 ⟨Nat.zero_le _, Nat.zero_le _⟩) (fun r86 h => ?_)
          refine lv_bipush (v := (40 : Int32)) hx hb dX2_isAsItMustBe_89 (by decide) ?_
          refine lv_icmp_gt (tgt := 148) hx hb dX2_isAsItMustBe_91 (by decide) (fun c91 => ?_) (fun c91 => ?_)
          · replace h := And.left h c91
            refine lv_iconst (v := (0 : Int32)) hx hb dX2_isAsItMustBe_148 (by decide) ?_
            exact W.zret (v := (0 : Int32)) hx hb hr rfl (fun t ht hW => ⟨_, rfl, h, ht⟩) (fun q hq => by cases hq) dX2_isAsItMustBe_149
          · replace h := And.right h c91
            refine lv_aload_n hx hb dX2_isAsItMustBe_94 rfl (lv_at hl 0 rfl) ?_
            refine va_get (D := D) (ci := 2) (v := .ref (ah 4)) (C := RX2) (T := TX2) (N := 5) hx hb htB ziX2 hown hK hP 0 rfl rfl 4 (by decide) (htB _ zm_102) (fun _ h9 => h9) rfl dX2_isAsItMustBe_95 ?_
            refine lv_iconst (v := (3 : Int32)) hx hb dX2_isAsItMustBe_98 (by decide) ?_
            have hPc : va_P D zCl [((ah 4), .inl (cy, 7, .inl (S 4)))] s.heap := hP.sub [2] rfl
            refine zc_r (va_runSN (As := [.ref (ah 4), .int (3 : Int32)]) (rest := []) ⟨hx, hb, hml, hown, htB⟩ (c_X4_at l D cy (ah 4) 7 (S 4) (3 : Int32) h) ⟨va_cnB 2 htB (zgN zm_13) rfl rfl rfl (hN _ zm_115) (htB _ zm_4) hd_X4_at.2 ⟨Nat.le_of_ble_eq_true rfl, Nat.le_of_ble_eq_true rfl⟩, htB _ zm_14, trivial⟩ ⟨zR_blind, zR_pre hPc hK hN⟩ rfl rfl hl.1 rfl (lv_room (Nat.le_of_ble_eq_true rfl)) dX2_isAsItMustBe_99 ⟨Nat.zero_le _, Nat.zero_le _⟩) (fun r99 h => ?_)
            refine lv_iconst (v := (1 : Int32)) hx hb dX2_isAsItMustBe_102 (by decide) ?_
            refine lv_icmp_lt (tgt := 148) hx hb dX2_isAsItMustBe_103 (by decide) (fun c103 => ?_) (fun c103 => ?_)
            · replace h := And.left h c103
              refine lv_iconst (v := (0 : Int32)) hx hb dX2_isAsItMustBe_148 (by decide) ?_
              exact W.zret (v := (0 : Int32)) hx hb hr rfl (fun t ht hW => ⟨_, rfl, h, ht⟩) (fun q hq => by cases hq) dX2_isAsItMustBe_149
            · replace h := And.right h c103
              refine lv_aload_n hx hb dX2_isAsItMustBe_106 rfl (lv_at hl 0 rfl) ?_
              refine va_get (D := D) (ci := 2) (v := .ref (ah 4)) (C := RX2) (T := TX2) (N := 5) hx hb htB ziX2 hown hK hP 0 rfl rfl 4 (by decide) (htB _ zm_102) (fun _ h9 => h9) rfl dX2_isAsItMustBe_107 ?_
              refine lv_iconst (v := (3 : Int32)) hx hb dX2_isAsItMustBe_110 (by decide) ?_
              have hPc : va_P D zCl [((ah 4), .inl (cy, 7, .inl (S 4)))] s.heap := hP.sub [2] rfl
              refine zc_r (va_runSN (As := [.ref (ah 4), .int (3 : Int32)]) (rest := []) ⟨hx, hb, hml, hown, htB⟩ (c_X4_at l D cy (ah 4) 7 (S 4) (3 : Int32) h) ⟨va_cnB 2 htB (zgN zm_13) rfl rfl rfl (hN _ zm_115) (htB _ zm_4) hd_X4_at.2 ⟨Nat.le_of_ble_eq_true rfl, Nat.le_of_ble_eq_true rfl⟩, htB _ zm_14, trivial⟩ ⟨zR_blind, zR_pre hPc hK hN⟩ rfl rfl hl.1 rfl (lv_room (Nat.le_of_ble_eq_true rfl)) dX2_isAsItMustBe_111 ⟨Nat.zero_le _, Nat.zero_le _⟩) (fun r111 h => ?_)
              refine lv_iconst (v := (4 : Int32)) hx hb dX2_isAsItMustBe_114 (by decide) ?_
              refine lv_icmp_gt (tgt := 148) hx hb dX2_isAsItMustBe_115 (by decide) (fun c115 => ?_) (fun c115 => ?_)
              · replace h := And.left h c115
                refine lv_iconst (v := (0 : Int32)) hx hb dX2_isAsItMustBe_148 (by decide) ?_
                exact W.zret (v := (0 : Int32)) hx hb hr rfl (fun t ht hW => ⟨_, rfl, h, ht⟩) (fun q hq => by cases hq) dX2_isAsItMustBe_149
              · replace h := And.right h c115
                refine lv_aload_n hx hb dX2_isAsItMustBe_118 rfl (lv_at hl 0 rfl) ?_
                refine va_get (D := D) (ci := 2) (v := .ref (ah 4)) (C := RX2) (T := TX2) (N := 5) hx hb htB ziX2 hown hK hP 0 rfl rfl 4 (by decide) (htB _ zm_102) (fun _ h9 => h9) rfl dX2_isAsItMustBe_119 ?_
                refine lv_iconst (v := (4 : Int32)) hx hb dX2_isAsItMustBe_122 (by decide) ?_
                have hPc : va_P D zCl [((ah 4), .inl (cy, 7, .inl (S 4)))] s.heap := hP.sub [2] rfl
                refine zc_r (va_runSN (As := [.ref (ah 4), .int (4 : Int32)]) (rest := []) ⟨hx, hb, hml, hown, htB⟩ (c_X4_at l D cy (ah 4) 7 (S 4) (4 : Int32) h) ⟨va_cnB 2 htB (zgN zm_13) rfl rfl rfl (hN _ zm_115) (htB _ zm_4) hd_X4_at.2 ⟨Nat.le_of_ble_eq_true rfl, Nat.le_of_ble_eq_true rfl⟩, htB _ zm_14, trivial⟩ ⟨zR_blind, zR_pre hPc hK hN⟩ rfl rfl hl.1 rfl (lv_room (Nat.le_of_ble_eq_true rfl)) dX2_isAsItMustBe_123 ⟨Nat.zero_le _, Nat.zero_le _⟩) (fun r123 h => ?_)
                refine lv_iconst (v := (2 : Int32)) hx hb dX2_isAsItMustBe_126 (by decide) ?_
                refine lv_icmp_gt (tgt := 148) hx hb dX2_isAsItMustBe_127 (by decide) (fun c127 => ?_) (fun c127 => ?_)
                · replace h := And.left h c127
                  refine lv_iconst (v := (0 : Int32)) hx hb dX2_isAsItMustBe_148 (by decide) ?_
                  exact W.zret (v := (0 : Int32)) hx hb hr rfl (fun t ht hW => ⟨_, rfl, h, ht⟩) (fun q hq => by cases hq) dX2_isAsItMustBe_149
                · replace h := And.right h c127
                  refine lv_aload_n hx hb dX2_isAsItMustBe_130 rfl (lv_at hl 0 rfl) ?_
                  refine va_get (D := D) (ci := 2) (v := .ref (ah 4)) (C := RX2) (T := TX2) (N := 5) hx hb htB ziX2 hown hK hP 0 rfl rfl 4 (by decide) (htB _ zm_102) (fun _ h9 => h9) rfl dX2_isAsItMustBe_131 ?_
                  refine lv_iconst (v := (5 : Int32)) hx hb dX2_isAsItMustBe_134 (by decide) ?_
                  have hPc : va_P D zCl [((ah 4), .inl (cy, 7, .inl (S 4)))] s.heap := hP.sub [2] rfl
                  refine zc_r (va_runSN (As := [.ref (ah 4), .int (5 : Int32)]) (rest := []) ⟨hx, hb, hml, hown, htB⟩ (c_X4_at l D cy (ah 4) 7 (S 4) (5 : Int32) h) ⟨va_cnB 2 htB (zgN zm_13) rfl rfl rfl (hN _ zm_115) (htB _ zm_4) hd_X4_at.2 ⟨Nat.le_of_ble_eq_true rfl, Nat.le_of_ble_eq_true rfl⟩, htB _ zm_14, trivial⟩ ⟨zR_blind, zR_pre hPc hK hN⟩ rfl rfl hl.1 rfl (lv_room (Nat.le_of_ble_eq_true rfl)) dX2_isAsItMustBe_135 ⟨Nat.zero_le _, Nat.zero_le _⟩) (fun r135 h => ?_)
                  have hPc : va_P D zCl ([] : va_W) s.heap := hP.sub [] rfl
                  refine zc_r (va_runSN (As := [.int r135]) (rest := []) ⟨hx, hb, hml, hown, htB⟩ (c_X4_isBit l D cy  r135 h) ⟨va_cnB 1 htB (zgN zm_117) rfl rfl rfl (hN _ zm_116) (htB _ zm_4) hd_X4_isBit.2 ⟨Nat.le_of_ble_eq_true rfl, Nat.le_of_ble_eq_true rfl⟩, htB _ zm_118, trivial⟩ ⟨zR_blind, zR_pre hPc hK hN⟩ rfl rfl hl.1 rfl (lv_room (Nat.le_of_ble_eq_true rfl)) dX2_isAsItMustBe_138 ⟨Nat.zero_le _, Nat.zero_le _⟩) (fun r138 h => ?_)
                  refine lv_if_eq (tgt := 148) hx hb dX2_isAsItMustBe_141 (by decide) (fun c141 => ?_) (fun c141 => ?_)
                  · replace h := And.left h c141
                    refine lv_iconst (v := (0 : Int32)) hx hb dX2_isAsItMustBe_148 (by decide) ?_
                    exact W.zret (v := (0 : Int32)) hx hb hr rfl (fun t ht hW => ⟨_, rfl, h, ht⟩) (fun q hq => by cases hq) dX2_isAsItMustBe_149
                  · replace h := And.right h c141
                    refine lv_iconst (v := (1 : Int32)) hx hb dX2_isAsItMustBe_144 (by decide) ?_
                    refine lv_goto (tgt := 149) hx hb dX2_isAsItMustBe_145 (by decide) ?_
                    exact W.zret (v := (1 : Int32)) hx hb hr rfl (fun t ht hW => ⟨_, rfl, h, ht⟩) (fun q hq => by cases hq) dX2_isAsItMustBe_149
    · replace h := And.left h c27
      refine lv_aload_n hx hb dX2_isAsItMustBe_30 rfl (lv_at hl 0 rfl) ?_
      refine va_get (D := D) (ci := 2) (v := .ref (ah 4)) (C := RX2) (T := TX2) (N := 5) hx hb htB ziX2 hown hK hP 0 rfl rfl 4 (by decide) (htB _ zm_102) (fun _ h9 => h9) rfl dX2_isAsItMustBe_31 ?_
      refine lv_iconst (v := (0 : Int32)) hx hb dX2_isAsItMustBe_34 (by decide) ?_
      have hPc : va_P D zCl [((ah 4), .inl (cy, 7, .inl (S 4)))] s.heap := hP.sub [2] rfl
      refine zc_r (va_runSN (As := [.ref (ah 4), .int (0 : Int32)]) (rest := []) ⟨hx, hb, hml, hown, htB⟩ (c_X4_at l D cy (ah 4) 7 (S 4) (0 : Int32) h) ⟨va_cnB 2 htB (zgN zm_13) rfl rfl rfl (hN _ zm_115) (htB _ zm_4) hd_X4_at.2 ⟨Nat.le_of_ble_eq_true rfl, Nat.le_of_ble_eq_true rfl⟩, htB _ zm_14, trivial⟩ ⟨zR_blind, zR_pre hPc hK hN⟩ rfl rfl hl.1 rfl (lv_room (Nat.le_of_ble_eq_true rfl)) dX2_isAsItMustBe_35 ⟨Nat.zero_le _, Nat.zero_le _⟩) (fun r35 h => ?_)
      have hPc : va_P D zCl ([] : va_W) s.heap := hP.sub [] rfl
      refine zc_r (va_runSN (As := [.int r35]) (rest := []) ⟨hx, hb, hml, hown, htB⟩ (c_X4_isCustom l D cy  r35 h) ⟨va_cnB 1 htB (zgN zm_120) rfl rfl rfl (hN _ zm_119) (htB _ zm_4) hd_X4_isCustom.2 ⟨Nat.le_of_ble_eq_true rfl, Nat.le_of_ble_eq_true rfl⟩, htB _ zm_121, trivial⟩ ⟨zR_blind, zR_pre hPc hK hN⟩ rfl rfl hl.1 rfl (lv_room (Nat.le_of_ble_eq_true rfl)) dX2_isAsItMustBe_38 ⟨Nat.zero_le _, Nat.zero_le _⟩) (fun r38 h => ?_)
      refine lv_if_eq (tgt := 61) hx hb dX2_isAsItMustBe_41 (by decide) (fun c41 => ?_) (fun c41 => ?_)
      · replace h := And.left h c41
        refine lv_iconst (v := (0 : Int32)) hx hb dX2_isAsItMustBe_61 (by decide) ?_
        exact W.zret (v := (0 : Int32)) hx hb hr rfl (fun t ht hW => ⟨_, rfl, h, ht⟩) (fun q hq => by cases hq) dX2_isAsItMustBe_62
      · replace h := And.right h c41
        refine lv_aload_n hx hb dX2_isAsItMustBe_44 rfl (lv_at hl 0 rfl) ?_
        refine va_get (D := D) (ci := 2) (v := .ref (ah 4)) (C := RX2) (T := TX2) (N := 5) hx hb htB ziX2 hown hK hP 0 rfl rfl 4 (by decide) (htB _ zm_102) (fun _ h9 => h9) rfl dX2_isAsItMustBe_45 ?_
        refine lv_iconst (v := (1 : Int32)) hx hb dX2_isAsItMustBe_48 (by decide) ?_
        have hPc : va_P D zCl [((ah 4), .inl (cy, 7, .inl (S 4)))] s.heap := hP.sub [2] rfl
        refine zc_r (va_runSN (As := [.ref (ah 4), .int (1 : Int32)]) (rest := []) ⟨hx, hb, hml, hown, htB⟩ (c_X4_at l D cy (ah 4) 7 (S 4) (1 : Int32) h) ⟨va_cnB 2 htB (zgN zm_13) rfl rfl rfl (hN _ zm_115) (htB _ zm_4) hd_X4_at.2 ⟨Nat.le_of_ble_eq_true rfl, Nat.le_of_ble_eq_true rfl⟩, htB _ zm_14, trivial⟩ ⟨zR_blind, zR_pre hPc hK hN⟩ rfl rfl hl.1 rfl (lv_room (Nat.le_of_ble_eq_true rfl)) dX2_isAsItMustBe_49 ⟨Nat.zero_le _, Nat.zero_le _⟩) (fun r49 h => ?_)
        refine lv_bipush (v := (40 : Int32)) hx hb dX2_isAsItMustBe_52 (by decide) ?_
        refine lv_icmp_gt (tgt := 61) hx hb dX2_isAsItMustBe_54 (by decide) (fun c54 => ?_) (fun c54 => ?_)
        · replace h := And.left h c54
          refine lv_iconst (v := (0 : Int32)) hx hb dX2_isAsItMustBe_61 (by decide) ?_
          exact W.zret (v := (0 : Int32)) hx hb hr rfl (fun t ht hW => ⟨_, rfl, h, ht⟩) (fun q hq => by cases hq) dX2_isAsItMustBe_62
        · replace h := And.right h c54
          refine lv_iconst (v := (1 : Int32)) hx hb dX2_isAsItMustBe_57 (by decide) ?_
          refine lv_goto (tgt := 62) hx hb dX2_isAsItMustBe_58 (by decide) ?_
          exact W.zret (v := (1 : Int32)) hx hb hr rfl (fun t ht hW => ⟨_, rfl, h, ht⟩) (fun q hq => by cases hq) dX2_isAsItMustBe_62
  · replace h := And.left h c3
    refine lv_aload_n hx hb dX2_isAsItMustBe_6 rfl (lv_at hl 0 rfl) ?_
    refine va_get (D := D) (ci := 2) (v := .ref (ah 4)) (C := RX2) (T := TX2) (N := 5) hx hb htB ziX2 hown hK hP 0 rfl rfl 4 (by decide) (htB _ zm_102) (fun _ h9 => h9) rfl dX2_isAsItMustBe_7 ?_
    refine lv_iconst (v := (0 : Int32)) hx hb dX2_isAsItMustBe_10 (by decide) ?_
    have hPc : va_P D zCl [((ah 4), .inl (cy, 7, .inl (S 4)))] s.heap := hP.sub [2] rfl
    refine zc_r (va_runSN (As := [.ref (ah 4), .int (0 : Int32)]) (rest := []) ⟨hx, hb, hml, hown, htB⟩ (c_X4_at l D cy (ah 4) 7 (S 4) (0 : Int32) h) ⟨va_cnB 2 htB (zgN zm_13) rfl rfl rfl (hN _ zm_115) (htB _ zm_4) hd_X4_at.2 ⟨Nat.le_of_ble_eq_true rfl, Nat.le_of_ble_eq_true rfl⟩, htB _ zm_14, trivial⟩ ⟨zR_blind, zR_pre hPc hK hN⟩ rfl rfl hl.1 rfl (lv_room (Nat.le_of_ble_eq_true rfl)) dX2_isAsItMustBe_11 ⟨Nat.zero_le _, Nat.zero_le _⟩) (fun r11 h => ?_)
    refine lv_iconst (v := (1 : Int32)) hx hb dX2_isAsItMustBe_14 (by decide) ?_
    refine lv_icmp_lt (tgt := 22) hx hb dX2_isAsItMustBe_15 (by decide) (fun c15 => ?_) (fun c15 => ?_)
    · replace h := And.left h c15
      refine lv_iconst (v := (0 : Int32)) hx hb dX2_isAsItMustBe_22 (by decide) ?_
      exact W.zret (v := (0 : Int32)) hx hb hr rfl (fun t ht hW => ⟨_, rfl, h, ht⟩) (fun q hq => by cases hq) dX2_isAsItMustBe_23
    · replace h := And.right h c15
      refine lv_iconst (v := (1 : Int32)) hx hb dX2_isAsItMustBe_18 (by decide) ?_
      refine lv_goto (tgt := 23) hx hb dX2_isAsItMustBe_19 (by decide) ?_
      exact W.zret (v := (1 : Int32)) hx hb hr rfl (fun t ht hW => ⟨_, rfl, h, ht⟩) (fun q hq => by cases hq) dX2_isAsItMustBe_23
set_option maxHeartbeats 4000000 in
set_option maxRecDepth 100000 in
theorem c_X3_tell (l : Launch) (D : va_G) (cy : ClassId) (ah : Nat → Nat) (sz : Nat) (i1 : Int32) (i2 : Int32) (i3 : Int32) (S : zT) {Q : zT → Prop} (h : wp_X3_tell i1 i2 i3 S Q) : Met l yX3_tell w_X3_tell rm_X3_tell (va_Pc [.ref (ah 99), .int i1, .int i2, .int i3] (zM D cy (bX3 ah cy S) sz)) (va_Qv (S := zT) (fun (u : zT) => Q u) (fun u t => va_P D zCl ((fun (u : zT) => (bX3 ah cy u)) u) t.heap) (va_A (bX3 ah cy S) sz)) 0 0 (va_A (bX3 ah cy S) sz) := by
  refine zOf_v (by decide) (Nat.le_of_ble_eq_true rfl) ?_
  intro p e s m below meth c ls A H locs hx hb hr hml hown htB hlocks hK hN hP hD hS hA hl
  replace hl : lv_has ls 4 [(0, .ref (ah 99)), (1, .int i1), (2, .int i2), (3, .int i3)] := hl
  refine lv_aload_n hx hb dX3_tell_0 rfl (lv_at hl 0 rfl) ?_
  refine va_get (D := D) (ci := 3) (v := .ref (ah 1)) (C := RX3) (T := TX3) (N := 3) hx hb htB ziX3 hown hK hP 0 rfl rfl 1 (by decide) (htB _ zm_24) (fun _ h9 => h9) rfl dX3_tell_1 ?_
  refine lv_iload_n hx hb dX3_tell_4 rfl (lv_at hl 1 rfl) ?_
  refine lv_bipush (v := (7 : Int32)) hx hb dX3_tell_5 (by decide) ?_
  refine lv_imul hx hb dX3_tell_7 ?_
  refine lv_iload_n hx hb dX3_tell_8 rfl (lv_at hl 2 rfl) ?_
  refine lv_iadd hx hb dX3_tell_9 ?_
  refine lv_iload_n hx hb dX3_tell_10 rfl (lv_at hl 3 rfl) ?_
  have hPc : va_P D zCl [((ah 1), .inl (cy, 56, .inl (S 1)))] H := hP.sub [2] rfl
  have hDc : va_D A [((ah 1), .inl (cy, 56, .inl (S 1)))] := hD.sub [2] (by decide) rfl
  refine zc_v (ws' := fun u => (bX3 ah cy (va_up S 1 u))) (va_runSN (As := [.ref (ah 1), .int ((i1 * (7 : Int32)) + i2), .int i3]) (rest := []) ⟨hx, hb, hml, hown, htB⟩ (c_X4_put l D cy (ah 1) H.size 56 ((i1 * (7 : Int32)) + i2) i3 (S 1) h) ⟨va_cnB 3 htB (zgN zm_3) rfl rfl rfl (hN _ zm_122) (htB _ zm_4) hd_X4_put.2 ⟨Nat.le_of_ble_eq_true rfl, Nat.le_of_ble_eq_true rfl⟩, htB _ zm_5, trivial⟩ ⟨zM_blind, zM_pre hPc hK hN hDc⟩ rfl rfl hl.1 rfl (lv_room (Nat.le_of_ble_eq_true rfl)) dX3_tell_11 ⟨Nat.zero_le _, Nat.zero_le _⟩) hS hA hP hD [2] [0, 1] [0, 1, 2] (by decide) rfl (by decide) (by decide) rfl (fun u => rfl) (fun u => rfl) (fun u => rfl) (fun u H locs h hP hD hS => ?_)
  obtain ⟨gf0_11, eu⟩ : ∃ z, z = u := ⟨_, rfl⟩
  subst eu
  replace hP : va_P D zCl (bX3 ah cy (va_up S 1 gf0_11)) H := hP
  replace hD : va_D A (bX3 ah cy (va_up S 1 gf0_11)) := hD
  obtain ⟨S_11, eS_11⟩ : ∃ z : zT, z = (va_up S 1 gf0_11) := ⟨_, rfl⟩
  replace h := h S_11 eS_11
  replace hP : va_P D zCl (bX3 ah cy S_11) H := by rw [eS_11]; exact hP
  replace hD : va_D A (bX3 ah cy S_11) := by rw [eS_11]; exact hD
  exact W.vret hx hb hr (fun t ht hW => ⟨⟨S_11, rfl, h, zP_h ht hP⟩, hS.F ht⟩) hS.2.2 dX3_tell_14
set_option maxHeartbeats 4000000 in
set_option maxRecDepth 100000 in
theorem c_X3_addWalker (l : Launch) (D : va_G) (cy : ClassId) (ah : Nat → Nat) (q1 : Nat) (sz : Nat) (n1 : Nat) (f1 : Nat → Int32) (S : zT) {Q : zT → Prop} (h : wp_X3_addWalker n1 f1 S Q) : Met l yX3_addWalker w_X3_addWalker rm_X3_addWalker (va_Pc [.ref (ah 99), .ref q1] (zM D cy ((bX3 ah cy S) ++ ([(q1, .inl (cy, n1, .inl f1))])) sz)) (va_Qv (S := zT) (fun (u : zT) => Q u) (fun u t => va_P D zCl ((fun (u : zT) => ((bX3 ah cy u) ++ ([(q1, .inl (cy, n1, .inl f1))]))) u) t.heap) (va_A ((bX3 ah cy S) ++ ([(q1, .inl (cy, n1, .inl f1))])) sz)) 0 0 (va_A ((bX3 ah cy S) ++ ([(q1, .inl (cy, n1, .inl f1))])) sz) := by
  refine zOf_v (by decide) (Nat.le_of_ble_eq_true rfl) ?_
  intro p e s m below meth c ls A H locs hx hb hr hml hown htB hlocks hK hN hP hD hS hA hl
  replace hl : lv_has ls 3 [(0, .ref (ah 99)), (1, .ref q1)] := hl
  have L37 : ∀ (S : zT), wpb_X3_addWalker_37 n1 f1 Q S → ∀ (H : Heap) (locs : List Loc), va_P D zCl ((bX3 ah cy S) ++ ([(q1, .inl (cy, n1, .inl f1))])) H → va_D A ((bX3 ah cy S) ++ ([(q1, .inl (cy, n1, .inl f1))])) → va_S A s.heap H locs → ∀ ls : Array Slot, lv_has ls 3 [(0, .ref (ah 99))] → W p l e rm_X3_addWalker s m ([.ref (ah 99), .ref q1] : List Value).toArray below meth c H locs 0 0 (MQ below (va_Qv (S := zT) (fun (u : zT) => Q u) (fun u t => va_P D zCl ((fun (u : zT) => ((bX3 ah cy u) ++ ([(q1, .inl (cy, n1, .inl f1))]))) u) t.heap) A) ([.ref (ah 99), .ref q1] : List Value).toArray s 0 0 A) (F0 m 37 ls []) := by
    intro S h H locs hP hD hS ls hl
    refine lv_aload_n hx hb dX3_addWalker_37 rfl (lv_at hl 0 rfl) ?_
    refine lv_dup hx hb dX3_addWalker_38 rfl ?_
    refine va_get (D := D) (ci := 3) (v := .int (S 2 0)) (C := RX3) (T := TX3) (N := 3) hx hb htB ziX3 hown hK hP 0 rfl rfl 2 (by decide) (htB _ zm_123) (fun _ h9 => h9) rfl dX3_addWalker_39 ?_
    refine lv_iconst (v := (1 : Int32)) hx hb dX3_addWalker_42 (by decide) ?_
    refine lv_iadd hx hb dX3_addWalker_43 ?_
    refine va_put (D := D) (ci := 3) (v := .int ((S 2 0) + (1 : Int32))) (ty := .int) (C := RX3) (T := TX3) (N := 3) hx hb htB ziX3 tyX3 tyX3_ok nmX3 hown hK hP hD hS 0 rfl rfl 2 (by decide) (htB _ zm_123) (fun _ h9 => h9) rfl (tyX3_ok 2 (by decide)) rfl rfl (Nat.le_of_ble_eq_true rfl) dX3_addWalker_44 (fun H locs hP hD hS => ?_)
    obtain ⟨S_44, eS_44⟩ : ∃ z : zT, z = (va_up S 2 (fun _ => ((S 2 0) + (1 : Int32)))) := ⟨_, rfl⟩
    replace h := h S_44 eS_44
    replace hP : va_P D zCl ((bX3 ah cy S_44) ++ ([(q1, .inl (cy, n1, .inl f1))])) H := by rw [eS_44]; exact hP
    replace hD : va_D A ((bX3 ah cy S_44) ++ ([(q1, .inl (cy, n1, .inl f1))])) := by rw [eS_44]; exact hD
    exact W.vret hx hb hr (fun t ht hW => ⟨⟨S_44, rfl, h, zP_h ht hP⟩, hS.F ht⟩) hS.2.2 dX3_addWalker_47
  have L11 : ∀ (k11 : Nat) (x2 : Int32) (S : zT), wpl_X3_addWalker_11 n1 f1 Q k11 x2 S → ∀ (H : Heap) (locs : List Loc), va_P D zCl ((bX3 ah cy S) ++ ([(q1, .inl (cy, n1, .inl f1))])) H → va_D A ((bX3 ah cy S) ++ ([(q1, .inl (cy, n1, .inl f1))])) → va_S A s.heap H locs → ∀ ls : Array Slot, lv_has ls 3 [(0, .ref (ah 99)), (1, .ref q1), (2, .int x2)] → W p l e rm_X3_addWalker s m ([.ref (ah 99), .ref q1] : List Value).toArray below meth c H locs 0 0 (MQ below (va_Qv (S := zT) (fun (u : zT) => Q u) (fun u t => va_P D zCl ((fun (u : zT) => ((bX3 ah cy u) ++ ([(q1, .inl (cy, n1, .inl f1))]))) u) t.heap) A) ([.ref (ah 99), .ref q1] : List Value).toArray s 0 0 A) (F0 m 11 ls []) := by
    intro k11
    induction k11 with
    | zero => exact fun x2 S h => False.elim h
    | succ k11 ih11 =>
      intro x2 S h H locs hP hD hS ls hl
      refine lv_iload_n hx hb dX3_addWalker_11 rfl (lv_at hl 2 rfl) ?_
      refine lv_bipush (v := (7 : Int32)) hx hb dX3_addWalker_12 (by decide) ?_
      refine lv_icmp_ge (tgt := 37) hx hb dX3_addWalker_14 (by decide) (fun c14 => ?_) (fun c14 => ?_)
      · replace h := And.left h c14
        exact L37 S h H locs hP hD hS ls (lv_sub hl [0] rfl)
      · replace h := And.right h c14
        refine lv_aload_n hx hb dX3_addWalker_17 rfl (lv_at hl 0 rfl) ?_
        refine lv_aload_n hx hb dX3_addWalker_18 rfl (lv_at hl 0 rfl) ?_
        refine va_get (D := D) (ci := 3) (v := .int (S 2 0)) (C := RX3) (T := TX3) (N := 3) hx hb htB ziX3 hown hK hP 0 rfl rfl 2 (by decide) (htB _ zm_123) (fun _ h9 => h9) rfl dX3_addWalker_19 ?_
        refine lv_iload_n hx hb dX3_addWalker_22 rfl (lv_at hl 2 rfl) ?_
        refine lv_aload_n hx hb dX3_addWalker_23 rfl (lv_at hl 1 rfl) ?_
        refine lv_iload_n hx hb dX3_addWalker_24 rfl (lv_at hl 2 rfl) ?_
        have hPc : va_P D zCl [(q1, .inl (cy, n1, .inl f1))] H := hP.sub [3] rfl
        refine zc_r (va_runSN (As := [.ref q1, .int x2]) (rest := [.int x2, .int (S 2 0), .ref (ah 99)]) ⟨hx, hb, hml, hown, htB⟩ (c_X4_at l D cy q1 n1 f1 x2 h) ⟨va_cnB 2 htB (zgN zm_13) rfl rfl rfl (hN _ zm_124) (htB _ zm_4) hd_X4_at.2 ⟨Nat.le_of_ble_eq_true rfl, Nat.le_of_ble_eq_true rfl⟩, htB _ zm_14, trivial⟩ ⟨zR_blind, zR_pre hPc hK hN⟩ rfl rfl hl.1 rfl (lv_room (Nat.le_of_ble_eq_true rfl)) dX3_addWalker_25 ⟨Nat.zero_le _, Nat.zero_le _⟩) (fun r25 h => ?_)
        have hPc : va_P D zCl (bX3 ah cy S) H := hP.sub [0, 1, 2] rfl
        have hDc : va_D A (bX3 ah cy S) := hD.sub [0, 1, 2] (by decide) rfl
        refine zc_v (ws' := fun u => ((bX3 ah cy u) ++ ([(q1, .inl (cy, n1, .inl f1))]))) (va_runV (As := [.int (S 2 0), .int x2, .int r25]) (rest := []) ⟨hx, hb, hml, hown, htB⟩ (c_X3_tell l D cy ah H.size (S 2 0) x2 r25 S h) (cwV 3 htB (zgV zm_125 zm_127 zm_128 zm_28 zm_126) rfl rfl rfl hd_X3_tell ⟨Nat.le_of_ble_eq_true rfl, Nat.le_of_ble_eq_true rfl⟩) ⟨zM_blind, va_recv hK hP (ci := 3) (q0 := 0) rfl rfl, zM_pre hPc hK hN hDc⟩ rfl rfl hl.1 rfl (lv_room (Nat.le_of_ble_eq_true rfl)) dX3_addWalker_28 ⟨Nat.zero_le _, Nat.zero_le _⟩) hS hA hP hD [0, 1, 2] [3] [1, 2, 3, 0] (by decide) rfl (by decide) (by decide) rfl (fun u => rfl) (fun u => rfl) (fun u => rfl) (fun u H locs h hP hD hS => ?_)
        obtain ⟨S_28, eu⟩ : ∃ z, z = u := ⟨_, rfl⟩
        subst eu
        replace hP : va_P D zCl ((bX3 ah cy S_28) ++ ([(q1, .inl (cy, n1, .inl f1))])) H := hP
        replace hD : va_D A ((bX3 ah cy S_28) ++ ([(q1, .inl (cy, n1, .inl f1))])) := hD
        obtain ⟨y31, ey31⟩ : ∃ z : Int32, z = (x2 + (1 : Int32)) := ⟨_, rfl⟩
        replace h := h y31 ey31
        refine lv_iinc (v := y31) (lv' := [(2, .int y31), (0, .ref (ah 99)), (1, .ref q1)]) hx hb dX3_addWalker_31 hl (k := 2) rfl (by rw [ey31]; rfl) (by decide) rfl (fun ls hl => ?_)
        refine lv_goto (tgt := 11) hx hb dX3_addWalker_34 (by decide) ?_
        exact ih11 y31 S_28 h H locs hP hD hS ls (lv_sub hl [1, 2, 0] rfl)
  refine lv_aload_n hx hb dX3_addWalker_0 rfl (lv_at hl 0 rfl) ?_
  refine va_get (D := D) (ci := 3) (v := .int (S 2 0)) (C := RX3) (T := TX3) (N := 3) hx hb htB ziX3 hown hK hP 0 rfl rfl 2 (by decide) (htB _ zm_123) (fun _ h9 => h9) rfl dX3_addWalker_1 ?_
  refine lv_bipush (v := (8 : Int32)) hx hb dX3_addWalker_4 (by decide) ?_
  refine lv_icmp_ge (tgt := 47) hx hb dX3_addWalker_6 (by decide) (fun c6 => ?_) (fun c6 => ?_)
  · replace h := And.left h c6
    exact W.vret hx hb hr (fun t ht hW => ⟨⟨S, rfl, h, zP_h ht hP⟩, hS.F ht⟩) hS.2.2 dX3_addWalker_47
  · replace h := And.right h c6
    refine lv_iconst (v := (0 : Int32)) hx hb dX3_addWalker_9 (by decide) ?_
    refine lv_istore_n (lv' := [(2, .int (0 : Int32)), (0, .ref (ah 99)), (1, .ref q1)]) hx hb dX3_addWalker_10 rfl hl (by decide) rfl (fun ls hl => ?_)
    obtain ⟨nn, h⟩ := h
    exact L11 nn (0 : Int32) S h H locs hP hD hS ls (lv_sub hl [1, 2, 0] rfl)
set_option maxHeartbeats 4000000 in
set_option maxRecDepth 100000 in
theorem c_X3_change (l : Launch) (D : va_G) (cy : ClassId) (ah : Nat → Nat) (sz : Nat) (i1 : Int32) (i2 : Int32) (S : zT) {Q : Int32 → zT → Prop} (h : wp_X3_change i1 i2 S Q) : Met l yX3_change w_X3_change rm_X3_change (va_Pc [.ref (ah 99), .int i1, .int i2] (zM D cy (bX3 ah cy S) sz)) (va_Qi (S := zT) (fun (r : Int32) (u : zT) => Q r u) (fun u t => va_P D zCl ((fun (u : zT) => (bX3 ah cy u)) u) t.heap) (va_A (bX3 ah cy S) sz)) 0 0 (va_A (bX3 ah cy S) sz) := by
  refine zOf_i (by decide) (Nat.le_of_ble_eq_true rfl) ?_
  intro p e s m below meth c ls A H locs hx hb hr hml hown htB hlocks hK hN hP hD hS hA hl
  replace hl : lv_has ls 4 [(0, .ref (ah 99)), (1, .int i1), (2, .int i2)] := hl
  refine lv_aload_n hx hb dX3_change_0 rfl (lv_at hl 0 rfl) ?_
  refine lv_iload_n hx hb dX3_change_1 rfl (lv_at hl 1 rfl) ?_
  refine zc_r (va_runV (As := [.int i1]) (rest := []) ⟨hx, hb, hml, hown, htB⟩ (c_X3_door l D cy ah S i1 h) (cwV 1 htB (zgV zm_26 zm_29 zm_30 zm_28 zm_27) rfl rfl rfl hd_X3_door ⟨Nat.le_of_ble_eq_true rfl, Nat.le_of_ble_eq_true rfl⟩) ⟨zR_blind, va_recv hK hP (ci := 3) (q0 := 0) rfl rfl, zR_pre hP hK hN⟩ rfl rfl hl.1 rfl (lv_room (Nat.le_of_ble_eq_true rfl)) dX3_change_2 ⟨Nat.zero_le _, Nat.zero_le _⟩) (fun r2 h => ?_)
  refine lv_istore_n (lv' := [(3, .int r2), (0, .ref (ah 99)), (1, .int i1), (2, .int i2)]) hx hb dX3_change_5 rfl hl (by decide) rfl (fun ls hl => ?_)
  refine lv_aload_n hx hb dX3_change_6 rfl (lv_at hl 1 rfl) ?_
  refine va_get (D := D) (ci := 3) (v := .ref (ah 0)) (C := RX3) (T := TX3) (N := 3) hx hb htB ziX3 hown hK hP 0 rfl rfl 0 (by decide) (htB _ zm_25) (fun _ h9 => h9) rfl dX3_change_7 ?_
  refine lv_iload_n hx hb dX3_change_10 rfl (lv_at hl 2 rfl) ?_
  refine lv_iload_n hx hb dX3_change_11 rfl (lv_at hl 3 rfl) ?_
  have hPc : va_P D zCl [((ah 0), .inl (cy, 5, .inl (S 0)))] H := hP.sub [1] rfl
  have hDc : va_D A [((ah 0), .inl (cy, 5, .inl (S 0)))] := hD.sub [1] (by decide) rfl
  refine zc_v (ws' := fun u => (bX3 ah cy (va_up S 0 u))) (va_runSN (As := [.ref (ah 0), .int i1, .int i2]) (rest := []) ⟨hx, hb, hml, hown, htB⟩ (c_X4_put l D cy (ah 0) H.size 5 i1 i2 (S 0) h) ⟨va_cnB 3 htB (zgN zm_3) rfl rfl rfl (hN _ zm_122) (htB _ zm_4) hd_X4_put.2 ⟨Nat.le_of_ble_eq_true rfl, Nat.le_of_ble_eq_true rfl⟩, htB _ zm_5, trivial⟩ ⟨zM_blind, zM_pre hPc hK hN hDc⟩ rfl rfl hl.1 rfl (lv_room (Nat.le_of_ble_eq_true rfl)) dX3_change_12 ⟨Nat.zero_le _, Nat.zero_le _⟩) hS hA hP hD [1] [0, 2] [0, 2, 1] (by decide) rfl (by decide) (by decide) rfl (fun u => rfl) (fun u => rfl) (fun u => rfl) (fun u H locs h hP hD hS => ?_)
  obtain ⟨gf0_12, eu⟩ : ∃ z, z = u := ⟨_, rfl⟩
  subst eu
  replace hP : va_P D zCl (bX3 ah cy (va_up S 0 gf0_12)) H := hP
  replace hD : va_D A (bX3 ah cy (va_up S 0 gf0_12)) := hD
  obtain ⟨S_12, eS_12⟩ : ∃ z : zT, z = (va_up S 0 gf0_12) := ⟨_, rfl⟩
  replace h := h S_12 eS_12
  replace hP : va_P D zCl (bX3 ah cy S_12) H := by rw [eS_12]; exact hP
  replace hD : va_D A (bX3 ah cy S_12) := by rw [eS_12]; exact hD
  refine lv_iload_n hx hb dX3_change_15 rfl (lv_at hl 0 rfl) ?_
  exact W.iret (v := r2) hx hb hr (fun t ht hW => ⟨⟨_, S_12, rfl, h, zP_h ht hP⟩, hS.F ht⟩) hS.2.2 dX3_change_16
set_option maxHeartbeats 4000000 in
set_option maxRecDepth 100000 in
theorem c_X2_bringStatement (l : Launch) (D : va_G) (cy : ClassId) (ah : Nat → Nat) (ao1 : Nat → Nat) (sz : Nat) (S : zT) (i2 : Int32) (So1 : zT) {Q : zT → Prop} (h : wp_X2_bringStatement S i2 So1 Q) : Met l yX2_bringStatement w_X2_bringStatement rm_X2_bringStatement (va_Pc [.ref (ah 99), .ref (ao1 99), .int i2] (zM D cy ((bX2 ah cy S) ++ ((bX3 ao1 cy So1))) sz)) (va_Qv (S := zT) (fun (u : zT) => Q u) (fun u t => va_P D zCl ((fun (u : zT) => ((bX2 ah cy S) ++ ((bX3 ao1 cy u)))) u) t.heap) (va_A ((bX2 ah cy S) ++ ((bX3 ao1 cy So1))) sz)) 0 0 (va_A ((bX2 ah cy S) ++ ((bX3 ao1 cy So1))) sz) := by
  refine zOf_v (by decide) (Nat.le_of_ble_eq_true rfl) ?_
  intro p e s m below meth c ls A H locs hx hb hr hml hown htB hlocks hK hN hP hD hS hA hl
  replace hl : lv_has ls 3 [(0, .ref (ah 99)), (1, .ref (ao1 99)), (2, .int i2)] := hl
  refine lv_iload_n hx hb dX2_bringStatement_0 rfl (lv_at hl 2 rfl) ?_
  refine lv_bipush (v := (100 : Int32)) hx hb dX2_bringStatement_1 (by decide) ?_
  refine lv_icmp_ne (tgt := 51) hx hb dX2_bringStatement_3 (by decide) (fun c3 => ?_) (fun c3 => ?_)
  · replace h := And.right h c3
    refine lv_iload_n hx hb dX2_bringStatement_51 rfl (lv_at hl 2 rfl) ?_
    refine lv_bipush (v := (99 : Int32)) hx hb dX2_bringStatement_52 (by decide) ?_
    refine lv_icmp_ne (tgt := 88) hx hb dX2_bringStatement_54 (by decide) (fun c54 => ?_) (fun c54 => ?_)
    · replace h := And.right h c54
      refine lv_aload_n hx hb dX2_bringStatement_88 rfl (lv_at hl 1 rfl) ?_
      refine lv_aload_n hx hb dX2_bringStatement_89 rfl (lv_at hl 0 rfl) ?_
      refine va_get (D := D) (ci := 2) (v := .ref (ah 4)) (C := RX2) (T := TX2) (N := 5) hx hb htB ziX2 hown hK hP 0 rfl rfl 4 (by decide) (htB _ zm_102) (fun _ h9 => h9) rfl dX2_bringStatement_90 ?_
      have hPc : va_P D zCl ((bX3 ao1 cy So1) ++ ([((ah 4), .inl (cy, 7, .inl (S 4)))])) H := hP.sub [3, 4, 5, 2] rfl
      have hDc : va_D A ((bX3 ao1 cy So1) ++ ([((ah 4), .inl (cy, 7, .inl (S 4)))])) := hD.sub [3, 4, 5, 2] (by decide) rfl
      refine zc_v (ws' := fun u => ((bX2 ah cy S) ++ ((bX3 ao1 cy u)))) (va_runV (As := [.ref (ah 4)]) (rest := []) ⟨hx, hb, hml, hown, htB⟩ (c_X3_addWalker l D cy ao1 (ah 4) H.size 7 (S 4) So1 h) (cwV 1 htB (zgV zm_129 zm_131 zm_132 zm_28 zm_130) rfl rfl rfl hd_X3_addWalker ⟨Nat.le_of_ble_eq_true rfl, Nat.le_of_ble_eq_true rfl⟩) ⟨zM_blind, va_recv hK hP (ci := 3) (q0 := 3) rfl rfl, zM_pre hPc hK hN hDc⟩ rfl rfl hl.1 rfl (lv_room (Nat.le_of_ble_eq_true rfl)) dX2_bringStatement_93 ⟨Nat.zero_le _, Nat.zero_le _⟩) hS hA hP hD [3, 4, 5, 2] [0, 1] [0, 1, 5, 2, 3, 4] (by decide) rfl (by decide) (by decide) rfl (fun u => rfl) (fun u => rfl) (fun u => rfl) (fun u H locs h hP hD hS => ?_)
      obtain ⟨So1_93, eu⟩ : ∃ z, z = u := ⟨_, rfl⟩
      subst eu
      replace hP : va_P D zCl ((bX2 ah cy S) ++ ((bX3 ao1 cy So1_93))) H := hP
      replace hD : va_D A ((bX2 ah cy S) ++ ((bX3 ao1 cy So1_93))) := hD
      exact W.vret hx hb hr (fun t ht hW => ⟨⟨So1_93, rfl, h, zP_h ht hP⟩, hS.F ht⟩) hS.2.2 dX2_bringStatement_96
    · replace h := And.left h c54
      refine lv_aload_n hx hb dX2_bringStatement_57 rfl (lv_at hl 1 rfl) ?_
      refine lv_iconst (v := (4 : Int32)) hx hb dX2_bringStatement_58 (by decide) ?_
      refine lv_aload_n hx hb dX2_bringStatement_59 rfl (lv_at hl 0 rfl) ?_
      refine va_get (D := D) (ci := 2) (v := .ref (ah 4)) (C := RX2) (T := TX2) (N := 5) hx hb htB ziX2 hown hK hP 0 rfl rfl 4 (by decide) (htB _ zm_102) (fun _ h9 => h9) rfl dX2_bringStatement_60 ?_
      refine lv_iconst (v := (0 : Int32)) hx hb dX2_bringStatement_63 (by decide) ?_
      have hPc : va_P D zCl [((ah 4), .inl (cy, 7, .inl (S 4)))] H := hP.sub [2] rfl
      refine zc_r (va_runSN (As := [.ref (ah 4), .int (0 : Int32)]) (rest := [.int (4 : Int32), .ref (ao1 99)]) ⟨hx, hb, hml, hown, htB⟩ (c_X4_at l D cy (ah 4) 7 (S 4) (0 : Int32) h) ⟨va_cnB 2 htB (zgN zm_13) rfl rfl rfl (hN _ zm_115) (htB _ zm_4) hd_X4_at.2 ⟨Nat.le_of_ble_eq_true rfl, Nat.le_of_ble_eq_true rfl⟩, htB _ zm_14, trivial⟩ ⟨zR_blind, zR_pre hPc hK hN⟩ rfl rfl hl.1 rfl (lv_room (Nat.le_of_ble_eq_true rfl)) dX2_bringStatement_64 ⟨Nat.zero_le _, Nat.zero_le _⟩) (fun r64 h => ?_)
      have hPc : va_P D zCl (bX3 ao1 cy So1) H := hP.sub [3, 4, 5] rfl
      have hDc : va_D A (bX3 ao1 cy So1) := hD.sub [3, 4, 5] (by decide) rfl
      refine zc_i (ws' := fun u => ((bX2 ah cy S) ++ ((bX3 ao1 cy u)))) (va_runV (As := [.int (4 : Int32), .int r64]) (rest := []) ⟨hx, hb, hml, hown, htB⟩ (c_X3_change l D cy ao1 H.size (4 : Int32) r64 So1 h) (cwV 2 htB (zgV zm_133 zm_135 zm_136 zm_28 zm_134) rfl rfl rfl hd_X3_change ⟨Nat.le_of_ble_eq_true rfl, Nat.le_of_ble_eq_true rfl⟩) ⟨zM_blind, va_recv hK hP (ci := 3) (q0 := 3) rfl rfl, zM_pre hPc hK hN hDc⟩ rfl rfl hl.1 rfl (lv_room (Nat.le_of_ble_eq_true rfl)) dX2_bringStatement_67 ⟨Nat.zero_le _, Nat.zero_le _⟩) hS hA hP hD [3, 4, 5] [0, 1, 2] [0, 1, 2, 3, 4, 5] (by decide) rfl (by decide) (by decide) rfl (fun u => rfl) (fun u => rfl) (fun u => rfl) (fun r67 u H locs h hP hD hS => ?_)
      obtain ⟨So1_67, eu⟩ : ∃ z, z = u := ⟨_, rfl⟩
      subst eu
      replace hP : va_P D zCl ((bX2 ah cy S) ++ ((bX3 ao1 cy So1_67))) H := hP
      replace hD : va_D A ((bX2 ah cy S) ++ ((bX3 ao1 cy So1_67))) := hD
      refine lv_pop hx hb dX2_bringStatement_70 rfl ?_
      refine lv_aload_n hx hb dX2_bringStatement_71 rfl (lv_at hl 1 rfl) ?_
      refine lv_iconst (v := (3 : Int32)) hx hb dX2_bringStatement_72 (by decide) ?_
      refine lv_aload_n hx hb dX2_bringStatement_73 rfl (lv_at hl 0 rfl) ?_
      refine va_get (D := D) (ci := 2) (v := .ref (ah 4)) (C := RX2) (T := TX2) (N := 5) hx hb htB ziX2 hown hK hP 0 rfl rfl 4 (by decide) (htB _ zm_102) (fun _ h9 => h9) rfl dX2_bringStatement_74 ?_
      refine lv_iconst (v := (1 : Int32)) hx hb dX2_bringStatement_77 (by decide) ?_
      have hPc : va_P D zCl [((ah 4), .inl (cy, 7, .inl (S 4)))] H := hP.sub [2] rfl
      refine zc_r (va_runSN (As := [.ref (ah 4), .int (1 : Int32)]) (rest := [.int (3 : Int32), .ref (ao1 99)]) ⟨hx, hb, hml, hown, htB⟩ (c_X4_at l D cy (ah 4) 7 (S 4) (1 : Int32) h) ⟨va_cnB 2 htB (zgN zm_13) rfl rfl rfl (hN _ zm_115) (htB _ zm_4) hd_X4_at.2 ⟨Nat.le_of_ble_eq_true rfl, Nat.le_of_ble_eq_true rfl⟩, htB _ zm_14, trivial⟩ ⟨zR_blind, zR_pre hPc hK hN⟩ rfl rfl hl.1 rfl (lv_room (Nat.le_of_ble_eq_true rfl)) dX2_bringStatement_78 ⟨Nat.zero_le _, Nat.zero_le _⟩) (fun r78 h => ?_)
      have hPc : va_P D zCl (bX3 ao1 cy So1_67) H := hP.sub [3, 4, 5] rfl
      have hDc : va_D A (bX3 ao1 cy So1_67) := hD.sub [3, 4, 5] (by decide) rfl
      refine zc_i (ws' := fun u => ((bX2 ah cy S) ++ ((bX3 ao1 cy u)))) (va_runV (As := [.int (3 : Int32), .int r78]) (rest := []) ⟨hx, hb, hml, hown, htB⟩ (c_X3_change l D cy ao1 H.size (3 : Int32) r78 So1_67 h) (cwV 2 htB (zgV zm_133 zm_135 zm_136 zm_28 zm_134) rfl rfl rfl hd_X3_change ⟨Nat.le_of_ble_eq_true rfl, Nat.le_of_ble_eq_true rfl⟩) ⟨zM_blind, va_recv hK hP (ci := 3) (q0 := 3) rfl rfl, zM_pre hPc hK hN hDc⟩ rfl rfl hl.1 rfl (lv_room (Nat.le_of_ble_eq_true rfl)) dX2_bringStatement_81 ⟨Nat.zero_le _, Nat.zero_le _⟩) hS hA hP hD [3, 4, 5] [0, 1, 2] [0, 1, 2, 3, 4, 5] (by decide) rfl (by decide) (by decide) rfl (fun u => rfl) (fun u => rfl) (fun u => rfl) (fun r81 u H locs h hP hD hS => ?_)
      obtain ⟨So1_81, eu⟩ : ∃ z, z = u := ⟨_, rfl⟩
      subst eu
      replace hP : va_P D zCl ((bX2 ah cy S) ++ ((bX3 ao1 cy So1_81))) H := hP
      replace hD : va_D A ((bX2 ah cy S) ++ ((bX3 ao1 cy So1_81))) := hD
      refine lv_pop hx hb dX2_bringStatement_84 rfl ?_
      refine lv_goto (tgt := 96) hx hb dX2_bringStatement_85 (by decide) ?_
      exact W.vret hx hb hr (fun t ht hW => ⟨⟨So1_81, rfl, h, zP_h ht hP⟩, hS.F ht⟩) hS.2.2 dX2_bringStatement_96
  · replace h := And.left h c3
    refine lv_aload_n hx hb dX2_bringStatement_6 rfl (lv_at hl 1 rfl) ?_
    refine lv_iconst (v := (0 : Int32)) hx hb dX2_bringStatement_7 (by decide) ?_
    refine lv_aload_n hx hb dX2_bringStatement_8 rfl (lv_at hl 0 rfl) ?_
    refine va_get (D := D) (ci := 2) (v := .ref (ah 4)) (C := RX2) (T := TX2) (N := 5) hx hb htB ziX2 hown hK hP 0 rfl rfl 4 (by decide) (htB _ zm_102) (fun _ h9 => h9) rfl dX2_bringStatement_9 ?_
    refine lv_iconst (v := (0 : Int32)) hx hb dX2_bringStatement_12 (by decide) ?_
    have hPc : va_P D zCl [((ah 4), .inl (cy, 7, .inl (S 4)))] H := hP.sub [2] rfl
    refine zc_r (va_runSN (As := [.ref (ah 4), .int (0 : Int32)]) (rest := [.int (0 : Int32), .ref (ao1 99)]) ⟨hx, hb, hml, hown, htB⟩ (c_X4_at l D cy (ah 4) 7 (S 4) (0 : Int32) h) ⟨va_cnB 2 htB (zgN zm_13) rfl rfl rfl (hN _ zm_115) (htB _ zm_4) hd_X4_at.2 ⟨Nat.le_of_ble_eq_true rfl, Nat.le_of_ble_eq_true rfl⟩, htB _ zm_14, trivial⟩ ⟨zR_blind, zR_pre hPc hK hN⟩ rfl rfl hl.1 rfl (lv_room (Nat.le_of_ble_eq_true rfl)) dX2_bringStatement_13 ⟨Nat.zero_le _, Nat.zero_le _⟩) (fun r13 h => ?_)
    have hPc : va_P D zCl (bX3 ao1 cy So1) H := hP.sub [3, 4, 5] rfl
    have hDc : va_D A (bX3 ao1 cy So1) := hD.sub [3, 4, 5] (by decide) rfl
    refine zc_i (ws' := fun u => ((bX2 ah cy S) ++ ((bX3 ao1 cy u)))) (va_runV (As := [.int (0 : Int32), .int r13]) (rest := []) ⟨hx, hb, hml, hown, htB⟩ (c_X3_change l D cy ao1 H.size (0 : Int32) r13 So1 h) (cwV 2 htB (zgV zm_133 zm_135 zm_136 zm_28 zm_134) rfl rfl rfl hd_X3_change ⟨Nat.le_of_ble_eq_true rfl, Nat.le_of_ble_eq_true rfl⟩) ⟨zM_blind, va_recv hK hP (ci := 3) (q0 := 3) rfl rfl, zM_pre hPc hK hN hDc⟩ rfl rfl hl.1 rfl (lv_room (Nat.le_of_ble_eq_true rfl)) dX2_bringStatement_16 ⟨Nat.zero_le _, Nat.zero_le _⟩) hS hA hP hD [3, 4, 5] [0, 1, 2] [0, 1, 2, 3, 4, 5] (by decide) rfl (by decide) (by decide) rfl (fun u => rfl) (fun u => rfl) (fun u => rfl) (fun r16 u H locs h hP hD hS => ?_)
    obtain ⟨So1_16, eu⟩ : ∃ z, z = u := ⟨_, rfl⟩
    subst eu
    replace hP : va_P D zCl ((bX2 ah cy S) ++ ((bX3 ao1 cy So1_16))) H := hP
    replace hD : va_D A ((bX2 ah cy S) ++ ((bX3 ao1 cy So1_16))) := hD
    refine lv_pop hx hb dX2_bringStatement_19 rfl ?_
    refine lv_aload_n hx hb dX2_bringStatement_20 rfl (lv_at hl 1 rfl) ?_
    refine lv_iconst (v := (1 : Int32)) hx hb dX2_bringStatement_21 (by decide) ?_
    refine lv_aload_n hx hb dX2_bringStatement_22 rfl (lv_at hl 0 rfl) ?_
    refine va_get (D := D) (ci := 2) (v := .ref (ah 4)) (C := RX2) (T := TX2) (N := 5) hx hb htB ziX2 hown hK hP 0 rfl rfl 4 (by decide) (htB _ zm_102) (fun _ h9 => h9) rfl dX2_bringStatement_23 ?_
    refine lv_iconst (v := (1 : Int32)) hx hb dX2_bringStatement_26 (by decide) ?_
    have hPc : va_P D zCl [((ah 4), .inl (cy, 7, .inl (S 4)))] H := hP.sub [2] rfl
    refine zc_r (va_runSN (As := [.ref (ah 4), .int (1 : Int32)]) (rest := [.int (1 : Int32), .ref (ao1 99)]) ⟨hx, hb, hml, hown, htB⟩ (c_X4_at l D cy (ah 4) 7 (S 4) (1 : Int32) h) ⟨va_cnB 2 htB (zgN zm_13) rfl rfl rfl (hN _ zm_115) (htB _ zm_4) hd_X4_at.2 ⟨Nat.le_of_ble_eq_true rfl, Nat.le_of_ble_eq_true rfl⟩, htB _ zm_14, trivial⟩ ⟨zR_blind, zR_pre hPc hK hN⟩ rfl rfl hl.1 rfl (lv_room (Nat.le_of_ble_eq_true rfl)) dX2_bringStatement_27 ⟨Nat.zero_le _, Nat.zero_le _⟩) (fun r27 h => ?_)
    have hPc : va_P D zCl (bX3 ao1 cy So1_16) H := hP.sub [3, 4, 5] rfl
    have hDc : va_D A (bX3 ao1 cy So1_16) := hD.sub [3, 4, 5] (by decide) rfl
    refine zc_i (ws' := fun u => ((bX2 ah cy S) ++ ((bX3 ao1 cy u)))) (va_runV (As := [.int (1 : Int32), .int r27]) (rest := []) ⟨hx, hb, hml, hown, htB⟩ (c_X3_change l D cy ao1 H.size (1 : Int32) r27 So1_16 h) (cwV 2 htB (zgV zm_133 zm_135 zm_136 zm_28 zm_134) rfl rfl rfl hd_X3_change ⟨Nat.le_of_ble_eq_true rfl, Nat.le_of_ble_eq_true rfl⟩) ⟨zM_blind, va_recv hK hP (ci := 3) (q0 := 3) rfl rfl, zM_pre hPc hK hN hDc⟩ rfl rfl hl.1 rfl (lv_room (Nat.le_of_ble_eq_true rfl)) dX2_bringStatement_30 ⟨Nat.zero_le _, Nat.zero_le _⟩) hS hA hP hD [3, 4, 5] [0, 1, 2] [0, 1, 2, 3, 4, 5] (by decide) rfl (by decide) (by decide) rfl (fun u => rfl) (fun u => rfl) (fun u => rfl) (fun r30 u H locs h hP hD hS => ?_)
    obtain ⟨So1_30, eu⟩ : ∃ z, z = u := ⟨_, rfl⟩
    subst eu
    replace hP : va_P D zCl ((bX2 ah cy S) ++ ((bX3 ao1 cy So1_30))) H := hP
    replace hD : va_D A ((bX2 ah cy S) ++ ((bX3 ao1 cy So1_30))) := hD
    refine lv_pop hx hb dX2_bringStatement_33 rfl ?_
    refine lv_aload_n hx hb dX2_bringStatement_34 rfl (lv_at hl 1 rfl) ?_
    refine lv_iconst (v := (2 : Int32)) hx hb dX2_bringStatement_35 (by decide) ?_
    refine lv_aload_n hx hb dX2_bringStatement_36 rfl (lv_at hl 0 rfl) ?_
    refine va_get (D := D) (ci := 2) (v := .ref (ah 4)) (C := RX2) (T := TX2) (N := 5) hx hb htB ziX2 hown hK hP 0 rfl rfl 4 (by decide) (htB _ zm_102) (fun _ h9 => h9) rfl dX2_bringStatement_37 ?_
    refine lv_iconst (v := (2 : Int32)) hx hb dX2_bringStatement_40 (by decide) ?_
    have hPc : va_P D zCl [((ah 4), .inl (cy, 7, .inl (S 4)))] H := hP.sub [2] rfl
    refine zc_r (va_runSN (As := [.ref (ah 4), .int (2 : Int32)]) (rest := [.int (2 : Int32), .ref (ao1 99)]) ⟨hx, hb, hml, hown, htB⟩ (c_X4_at l D cy (ah 4) 7 (S 4) (2 : Int32) h) ⟨va_cnB 2 htB (zgN zm_13) rfl rfl rfl (hN _ zm_115) (htB _ zm_4) hd_X4_at.2 ⟨Nat.le_of_ble_eq_true rfl, Nat.le_of_ble_eq_true rfl⟩, htB _ zm_14, trivial⟩ ⟨zR_blind, zR_pre hPc hK hN⟩ rfl rfl hl.1 rfl (lv_room (Nat.le_of_ble_eq_true rfl)) dX2_bringStatement_41 ⟨Nat.zero_le _, Nat.zero_le _⟩) (fun r41 h => ?_)
    have hPc : va_P D zCl (bX3 ao1 cy So1_30) H := hP.sub [3, 4, 5] rfl
    have hDc : va_D A (bX3 ao1 cy So1_30) := hD.sub [3, 4, 5] (by decide) rfl
    refine zc_i (ws' := fun u => ((bX2 ah cy S) ++ ((bX3 ao1 cy u)))) (va_runV (As := [.int (2 : Int32), .int r41]) (rest := []) ⟨hx, hb, hml, hown, htB⟩ (c_X3_change l D cy ao1 H.size (2 : Int32) r41 So1_30 h) (cwV 2 htB (zgV zm_133 zm_135 zm_136 zm_28 zm_134) rfl rfl rfl hd_X3_change ⟨Nat.le_of_ble_eq_true rfl, Nat.le_of_ble_eq_true rfl⟩) ⟨zM_blind, va_recv hK hP (ci := 3) (q0 := 3) rfl rfl, zM_pre hPc hK hN hDc⟩ rfl rfl hl.1 rfl (lv_room (Nat.le_of_ble_eq_true rfl)) dX2_bringStatement_44 ⟨Nat.zero_le _, Nat.zero_le _⟩) hS hA hP hD [3, 4, 5] [0, 1, 2] [0, 1, 2, 3, 4, 5] (by decide) rfl (by decide) (by decide) rfl (fun u => rfl) (fun u => rfl) (fun u => rfl) (fun r44 u H locs h hP hD hS => ?_)
    obtain ⟨So1_44, eu⟩ : ∃ z, z = u := ⟨_, rfl⟩
    subst eu
    replace hP : va_P D zCl ((bX2 ah cy S) ++ ((bX3 ao1 cy So1_44))) H := hP
    replace hD : va_D A ((bX2 ah cy S) ++ ((bX3 ao1 cy So1_44))) := hD
    refine lv_pop hx hb dX2_bringStatement_47 rfl ?_
    refine lv_goto (tgt := 96) hx hb dX2_bringStatement_48 (by decide) ?_
    exact W.vret hx hb hr (fun t ht hW => ⟨⟨So1_44, rfl, h, zP_h ht hP⟩, hS.F ht⟩) hS.2.2 dX2_bringStatement_96
set_option maxHeartbeats 4000000 in
set_option maxRecDepth 100000 in
theorem c_X3_has (l : Launch) (D : va_G) (cy : ClassId) (ah : Nat → Nat) (S : zT) (i1 : Int32) {Q : Int32 → Prop} (h : wp_X3_has S i1 Q) : Met l yX3_has w_X3_has rm_X3_has (va_Pc [.ref (ah 99), .int i1] (zR D cy (bX3 ah cy S))) (vp_Si Q) 0 0 (fun _ => False) := by
  refine zOf_r (by decide) (Nat.le_of_ble_eq_true rfl) ?_
  intro p e s m below meth c ls hx hb hr hml hown htB hlocks hK hN hP hl
  replace hl : lv_has ls 2 [(0, .ref (ah 99)), (1, .int i1)] := hl
  refine lv_iload_n hx hb dX3_has_0 rfl (lv_at hl 1 rfl) ?_
  refine lv_if_lt (tgt := 16) hx hb dX3_has_1 (by decide) (fun c1 => ?_) (fun c1 => ?_)
  · replace h := And.left h c1
    refine lv_iconst (v := (0 : Int32)) hx hb dX3_has_16 (by decide) ?_
    exact W.zret (v := (0 : Int32)) hx hb hr rfl (fun t ht hW => ⟨_, rfl, h, ht⟩) (fun q hq => by cases hq) dX3_has_17
  · replace h := And.right h c1
    refine lv_iload_n hx hb dX3_has_4 rfl (lv_at hl 1 rfl) ?_
    refine lv_aload_n hx hb dX3_has_5 rfl (lv_at hl 0 rfl) ?_
    refine va_get (D := D) (ci := 3) (v := .int (S 2 0)) (C := RX3) (T := TX3) (N := 3) hx hb htB ziX3 hown hK hP 0 rfl rfl 2 (by decide) (htB _ zm_123) (fun _ h9 => h9) rfl dX3_has_6 ?_
    refine lv_icmp_ge (tgt := 16) hx hb dX3_has_9 (by decide) (fun c9 => ?_) (fun c9 => ?_)
    · replace h := And.left h c9
      refine lv_iconst (v := (0 : Int32)) hx hb dX3_has_16 (by decide) ?_
      exact W.zret (v := (0 : Int32)) hx hb hr rfl (fun t ht hW => ⟨_, rfl, h, ht⟩) (fun q hq => by cases hq) dX3_has_17
    · replace h := And.right h c9
      refine lv_iconst (v := (1 : Int32)) hx hb dX3_has_12 (by decide) ?_
      refine lv_goto (tgt := 17) hx hb dX3_has_13 (by decide) ?_
      exact W.zret (v := (1 : Int32)) hx hb hr rfl (fun t ht hW => ⟨_, rfl, h, ht⟩) (fun q hq => by cases hq) dX3_has_17
set_option maxHeartbeats 4000000 in
set_option maxRecDepth 100000 in
theorem c_X3_leaveOut (l : Launch) (D : va_G) (cy : ClassId) (ah : Nat → Nat) (sz : Nat) (i1 : Int32) (S : zT) {Q : zT → Prop} (h : wp_X3_leaveOut i1 S Q) : Met l yX3_leaveOut w_X3_leaveOut rm_X3_leaveOut (va_Pc [.ref (ah 99), .int i1] (zM D cy (bX3 ah cy S) sz)) (va_Qv (S := zT) (fun (u : zT) => Q u) (fun u t => va_P D zCl ((fun (u : zT) => (bX3 ah cy u)) u) t.heap) (va_A (bX3 ah cy S) sz)) 0 0 (va_A (bX3 ah cy S) sz) := by
  refine zOf_v (by decide) (Nat.le_of_ble_eq_true rfl) ?_
  intro p e s m below meth c ls A H locs hx hb hr hml hown htB hlocks hK hN hP hD hS hA hl
  replace hl : lv_has ls 4 [(0, .ref (ah 99)), (1, .int i1)] := hl
  have L20 : ∀ (k20 : Nat) (x2 : Int32) (S : zT), wpl_X3_leaveOut_20 i1 Q k20 x2 S → ∀ (H : Heap) (locs : List Loc), va_P D zCl (bX3 ah cy S) H → va_D A (bX3 ah cy S) → va_S A s.heap H locs → ∀ ls : Array Slot, lv_has ls 4 [(0, .ref (ah 99)), (2, .int x2)] → W p l e rm_X3_leaveOut s m ([.ref (ah 99), .int i1] : List Value).toArray below meth c H locs 0 0 (MQ below (va_Qv (S := zT) (fun (u : zT) => Q u) (fun u t => va_P D zCl ((fun (u : zT) => (bX3 ah cy u)) u) t.heap) A) ([.ref (ah 99), .int i1] : List Value).toArray s 0 0 A) (F0 m 20 ls []) := by
    intro k20
    induction k20 with
    | zero => exact fun x2 S h => False.elim h
    | succ k20 ih20 =>
      have L56 : ∀ (x2 : Int32) (S : zT), wpb_X3_leaveOut_56 i1 Q (wpl_X3_leaveOut_20 i1 Q k20) x2 S → ∀ (H : Heap) (locs : List Loc), va_P D zCl (bX3 ah cy S) H → va_D A (bX3 ah cy S) → va_S A s.heap H locs → ∀ ls : Array Slot, lv_has ls 4 [(0, .ref (ah 99)), (2, .int x2)] → W p l e rm_X3_leaveOut s m ([.ref (ah 99), .int i1] : List Value).toArray below meth c H locs 0 0 (MQ below (va_Qv (S := zT) (fun (u : zT) => Q u) (fun u t => va_P D zCl ((fun (u : zT) => (bX3 ah cy u)) u) t.heap) A) ([.ref (ah 99), .int i1] : List Value).toArray s 0 0 A) (F0 m 56 ls []) := by
        intro x2 S h H locs hP hD hS ls hl
        obtain ⟨y56, ey56⟩ : ∃ z : Int32, z = (x2 + (1 : Int32)) := ⟨_, rfl⟩
        replace h := h y56 ey56
        refine lv_iinc (v := y56) (lv' := [(2, .int y56), (0, .ref (ah 99))]) hx hb dX3_leaveOut_56 hl (k := 1) rfl (by rw [ey56]; rfl) (by decide) rfl (fun ls hl => ?_)
        refine lv_goto (tgt := 20) hx hb dX3_leaveOut_59 (by decide) ?_
        exact ih20 y56 S h H locs hP hD hS ls (lv_sub hl [1, 0] rfl)
      have L30 : ∀ (k30 : Nat) (x2 : Int32) (x3 : Int32) (S : zT), wpl_X3_leaveOut_30 i1 Q (wpl_X3_leaveOut_20 i1 Q k20) k30 x2 x3 S → ∀ (H : Heap) (locs : List Loc), va_P D zCl (bX3 ah cy S) H → va_D A (bX3 ah cy S) → va_S A s.heap H locs → ∀ ls : Array Slot, lv_has ls 4 [(0, .ref (ah 99)), (2, .int x2), (3, .int x3)] → W p l e rm_X3_leaveOut s m ([.ref (ah 99), .int i1] : List Value).toArray below meth c H locs 0 0 (MQ below (va_Qv (S := zT) (fun (u : zT) => Q u) (fun u t => va_P D zCl ((fun (u : zT) => (bX3 ah cy u)) u) t.heap) A) ([.ref (ah 99), .int i1] : List Value).toArray s 0 0 A) (F0 m 30 ls []) := by
        intro k30
        induction k30 with
        | zero => exact fun x2 x3 S h => False.elim h
        | succ k30 ih30 =>
          intro x2 x3 S h H locs hP hD hS ls hl
          refine lv_iload_n hx hb dX3_leaveOut_30 rfl (lv_at hl 2 rfl) ?_
          refine lv_bipush (v := (7 : Int32)) hx hb dX3_leaveOut_31 (by decide) ?_
          refine lv_icmp_ge (tgt := 56) hx hb dX3_leaveOut_33 (by decide) (fun c33 => ?_) (fun c33 => ?_)
          · replace h := And.left h c33
            exact L56 x2 S h H locs hP hD hS ls (lv_sub hl [0, 1] rfl)
          · replace h := And.right h c33
            refine lv_aload_n hx hb dX3_leaveOut_36 rfl (lv_at hl 0 rfl) ?_
            refine lv_iload_n hx hb dX3_leaveOut_37 rfl (lv_at hl 1 rfl) ?_
            refine lv_iload_n hx hb dX3_leaveOut_38 rfl (lv_at hl 2 rfl) ?_
            refine lv_aload_n hx hb dX3_leaveOut_39 rfl (lv_at hl 0 rfl) ?_
            refine lv_iload_n hx hb dX3_leaveOut_40 rfl (lv_at hl 1 rfl) ?_
            refine lv_iconst (v := (1 : Int32)) hx hb dX3_leaveOut_41 (by decide) ?_
            refine lv_iadd hx hb dX3_leaveOut_42 ?_
            refine lv_iload_n hx hb dX3_leaveOut_43 rfl (lv_at hl 2 rfl) ?_
            refine zc_r (va_runV (As := [.int (x2 + (1 : Int32)), .int x3]) (rest := [.int x3, .int x2, .ref (ah 99)]) ⟨hx, hb, hml, hown, htB⟩ (c_X3_of l D cy ah S (x2 + (1 : Int32)) x3 h) (cwV 2 htB (zgV zm_31 zm_33 zm_34 zm_28 zm_32) rfl rfl rfl hd_X3_of ⟨Nat.le_of_ble_eq_true rfl, Nat.le_of_ble_eq_true rfl⟩) ⟨zR_blind, va_recv hK hP (ci := 3) (q0 := 0) rfl rfl, zR_pre hP hK hN⟩ rfl rfl hl.1 rfl (lv_room (Nat.le_of_ble_eq_true rfl)) dX3_leaveOut_44 ⟨Nat.zero_le _, Nat.zero_le _⟩) (fun r44 h => ?_)
            refine zc_vf (ws' := fun u => (bX3 ah cy u)) (va_runV (As := [.int x2, .int x3, .int r44]) (rest := []) ⟨hx, hb, hml, hown, htB⟩ (c_X3_tell l D cy ah H.size x2 x3 r44 S h) (cwV 3 htB (zgV zm_125 zm_127 zm_128 zm_28 zm_126) rfl rfl rfl hd_X3_tell ⟨Nat.le_of_ble_eq_true rfl, Nat.le_of_ble_eq_true rfl⟩) ⟨zM_blind, va_recv hK hP (ci := 3) (q0 := 0) rfl rfl, zM_pre hP hK hN hD⟩ rfl rfl hl.1 rfl (lv_room (Nat.le_of_ble_eq_true rfl)) dX3_leaveOut_47 ⟨Nat.zero_le _, Nat.zero_le _⟩) hS hA hP hD (fun u => rfl) (fun u => rfl) (fun u H locs h hP hD hS => ?_)
            obtain ⟨S_47, eu⟩ : ∃ z, z = u := ⟨_, rfl⟩
            subst eu
            replace hP : va_P D zCl (bX3 ah cy S_47) H := hP
            replace hD : va_D A (bX3 ah cy S_47) := hD
            obtain ⟨y50, ey50⟩ : ∃ z : Int32, z = (x3 + (1 : Int32)) := ⟨_, rfl⟩
            replace h := h y50 ey50
            refine lv_iinc (v := y50) (lv' := [(3, .int y50), (0, .ref (ah 99)), (2, .int x2)]) hx hb dX3_leaveOut_50 hl (k := 2) rfl (by rw [ey50]; rfl) (by decide) rfl (fun ls hl => ?_)
            refine lv_goto (tgt := 30) hx hb dX3_leaveOut_53 (by decide) ?_
            exact ih30 x2 y50 S_47 h H locs hP hD hS ls (lv_sub hl [1, 2, 0] rfl)
      intro x2 S h H locs hP hD hS ls hl
      refine lv_iload_n hx hb dX3_leaveOut_20 rfl (lv_at hl 1 rfl) ?_
      refine lv_aload_n hx hb dX3_leaveOut_21 rfl (lv_at hl 0 rfl) ?_
      refine va_get (D := D) (ci := 3) (v := .int (S 2 0)) (C := RX3) (T := TX3) (N := 3) hx hb htB ziX3 hown hK hP 0 rfl rfl 2 (by decide) (htB _ zm_123) (fun _ h9 => h9) rfl dX3_leaveOut_22 ?_
      refine lv_icmp_ge (tgt := 62) hx hb dX3_leaveOut_25 (by decide) (fun c25 => ?_) (fun c25 => ?_)
      · replace h := And.left h c25
        exact W.vret hx hb hr (fun t ht hW => ⟨⟨S, rfl, h, zP_h ht hP⟩, hS.F ht⟩) hS.2.2 dX3_leaveOut_62
      · replace h := And.right h c25
        refine lv_iconst (v := (0 : Int32)) hx hb dX3_leaveOut_28 (by decide) ?_
        refine lv_istore_n (lv' := [(3, .int (0 : Int32)), (0, .ref (ah 99)), (2, .int x2)]) hx hb dX3_leaveOut_29 rfl hl (by decide) rfl (fun ls hl => ?_)
        obtain ⟨nn, h⟩ := h
        exact L30 nn x2 (0 : Int32) S h H locs hP hD hS ls (lv_sub hl [1, 2, 0] rfl)
  refine lv_aload_n hx hb dX3_leaveOut_0 rfl (lv_at hl 0 rfl) ?_
  refine lv_iload_n hx hb dX3_leaveOut_1 rfl (lv_at hl 1 rfl) ?_
  refine zc_r (va_runV (As := [.int i1]) (rest := []) ⟨hx, hb, hml, hown, htB⟩ (c_X3_has l D cy ah S i1 h) (cwV 1 htB (zgV zm_137 zm_139 zm_140 zm_28 zm_138) rfl rfl rfl hd_X3_has ⟨Nat.le_of_ble_eq_true rfl, Nat.le_of_ble_eq_true rfl⟩) ⟨zR_blind, va_recv hK hP (ci := 3) (q0 := 0) rfl rfl, zR_pre hP hK hN⟩ rfl rfl hl.1 rfl (lv_room (Nat.le_of_ble_eq_true rfl)) dX3_leaveOut_2 ⟨Nat.zero_le _, Nat.zero_le _⟩) (fun r2 h => ?_)
  refine lv_if_eq (tgt := 62) hx hb dX3_leaveOut_5 (by decide) (fun c5 => ?_) (fun c5 => ?_)
  · replace h := And.left h c5
    exact W.vret hx hb hr (fun t ht hW => ⟨⟨S, rfl, h, zP_h ht hP⟩, hS.F ht⟩) hS.2.2 dX3_leaveOut_62
  · replace h := And.right h c5
    refine lv_aload_n hx hb dX3_leaveOut_8 rfl (lv_at hl 0 rfl) ?_
    refine lv_dup hx hb dX3_leaveOut_9 rfl ?_
    refine va_get (D := D) (ci := 3) (v := .int (S 2 0)) (C := RX3) (T := TX3) (N := 3) hx hb htB ziX3 hown hK hP 0 rfl rfl 2 (by decide) (htB _ zm_123) (fun _ h9 => h9) rfl dX3_leaveOut_10 ?_
    refine lv_iconst (v := (1 : Int32)) hx hb dX3_leaveOut_13 (by decide) ?_
    refine lv_isub hx hb dX3_leaveOut_14 ?_
    refine va_put (D := D) (ci := 3) (v := .int ((S 2 0) - (1 : Int32))) (ty := .int) (C := RX3) (T := TX3) (N := 3) hx hb htB ziX3 tyX3 tyX3_ok nmX3 hown hK hP hD hS 0 rfl rfl 2 (by decide) (htB _ zm_123) (fun _ h9 => h9) rfl (tyX3_ok 2 (by decide)) rfl rfl (Nat.le_of_ble_eq_true rfl) dX3_leaveOut_15 (fun H locs hP hD hS => ?_)
    obtain ⟨S_15, eS_15⟩ : ∃ z : zT, z = (va_up S 2 (fun _ => ((S 2 0) - (1 : Int32)))) := ⟨_, rfl⟩
    replace h := h S_15 eS_15
    replace hP : va_P D zCl (bX3 ah cy S_15) H := by rw [eS_15]; exact hP
    replace hD : va_D A (bX3 ah cy S_15) := by rw [eS_15]; exact hD
    refine lv_iload_n hx hb dX3_leaveOut_18 rfl (lv_at hl 1 rfl) ?_
    refine lv_istore_n (lv' := [(2, .int i1), (0, .ref (ah 99)), (1, .int i1)]) hx hb dX3_leaveOut_19 rfl hl (by decide) rfl (fun ls hl => ?_)
    obtain ⟨nn, h⟩ := h
    exact L20 nn i1 S_15 h H locs hP hD hS ls (lv_sub hl [1, 0] rfl)
set_option maxHeartbeats 4000000 in
set_option maxRecDepth 100000 in
theorem c_X3_become (l : Launch) (D : va_G) (cy : ClassId) (ah : Nat → Nat) (ao1 : Nat → Nat) (sz : Nat) (So1 : zT) (S : zT) {Q : zT → Prop} (h : wp_X3_become So1 S Q) : Met l yX3_become w_X3_become rm_X3_become (va_Pc [.ref (ah 99), .ref (ao1 99)] (zM D cy ((bX3 ah cy S) ++ ((bX3 ao1 cy So1))) sz)) (va_Qv (S := zT) (fun (u : zT) => Q u) (fun u t => va_P D zCl ((fun (u : zT) => ((bX3 ah cy u) ++ ((bX3 ao1 cy So1)))) u) t.heap) (va_A ((bX3 ah cy S) ++ ((bX3 ao1 cy So1))) sz)) 0 0 (va_A ((bX3 ah cy S) ++ ((bX3 ao1 cy So1))) sz) := by
  refine zOf_v (by decide) (Nat.le_of_ble_eq_true rfl) ?_
  intro p e s m below meth c ls A H locs hx hb hr hml hown htB hlocks hK hN hP hD hS hA hl
  replace hl : lv_has ls 2 [(0, .ref (ah 99)), (1, .ref (ao1 99))] := hl
  refine lv_aload_n hx hb dX3_become_0 rfl (lv_at hl 1 rfl) ?_
  refine va_get (D := D) (ci := 3) (v := .ref (ao1 0)) (C := RX3) (T := TX3) (N := 3) hx hb htB ziX3 hown hK hP 3 rfl rfl 0 (by decide) (htB _ zm_25) (fun _ h9 => h9) rfl dX3_become_1 ?_
  refine lv_aload_n hx hb dX3_become_4 rfl (lv_at hl 0 rfl) ?_
  refine va_get (D := D) (ci := 3) (v := .ref (ah 0)) (C := RX3) (T := TX3) (N := 3) hx hb htB ziX3 hown hK hP 0 rfl rfl 0 (by decide) (htB _ zm_25) (fun _ h9 => h9) rfl dX3_become_5 ?_
  have hPc : va_P D zCl ([((ao1 0), .inl (cy, 5, .inl (So1 0)))] ++ ([((ah 0), .inl (cy, 5, .inl (S 0)))])) H := hP.sub [4, 1] rfl
  have hDc : va_D A ([((ao1 0), .inl (cy, 5, .inl (So1 0)))] ++ ([((ah 0), .inl (cy, 5, .inl (S 0)))])) := hD.sub [4, 1] (by decide) rfl
  refine zc_v (ws' := fun u => ((bX3 ah cy (va_up S 0 u)) ++ ((bX3 ao1 cy So1)))) (va_runSN (As := [.ref (ao1 0), .ref (ah 0)]) (rest := []) ⟨hx, hb, hml, hown, htB⟩ (c_X4_copyRow l D cy (ao1 0) (ah 0) H.size 5 5 (So1 0) (S 0) h) ⟨va_cnB 2 htB (zgN zm_10) rfl rfl rfl (hN _ zm_141) (htB _ zm_4) hd_X4_copyRow.2 ⟨Nat.le_of_ble_eq_true rfl, Nat.le_of_ble_eq_true rfl⟩, htB _ zm_11, trivial⟩ ⟨zM_blind, zM_pre hPc hK hN hDc⟩ rfl rfl hl.1 rfl (lv_room (Nat.le_of_ble_eq_true rfl)) dX3_become_8 ⟨Nat.zero_le _, Nat.zero_le _⟩) hS hA hP hD [4, 1] [0, 2, 3, 5] [0, 5, 1, 2, 4, 3] (by decide) rfl (by decide) (by decide) rfl (fun u => rfl) (fun u => rfl) (fun u => rfl) (fun u H locs h hP hD hS => ?_)
  obtain ⟨gf1_8, eu⟩ : ∃ z, z = u := ⟨_, rfl⟩
  subst eu
  replace hP : va_P D zCl ((bX3 ah cy (va_up S 0 gf1_8)) ++ ((bX3 ao1 cy So1))) H := hP
  replace hD : va_D A ((bX3 ah cy (va_up S 0 gf1_8)) ++ ((bX3 ao1 cy So1))) := hD
  obtain ⟨S_8, eS_8⟩ : ∃ z : zT, z = (va_up S 0 gf1_8) := ⟨_, rfl⟩
  replace h := h S_8 eS_8
  replace hP : va_P D zCl ((bX3 ah cy S_8) ++ ((bX3 ao1 cy So1))) H := by rw [eS_8]; exact hP
  replace hD : va_D A ((bX3 ah cy S_8) ++ ((bX3 ao1 cy So1))) := by rw [eS_8]; exact hD
  refine lv_aload_n hx hb dX3_become_11 rfl (lv_at hl 1 rfl) ?_
  refine va_get (D := D) (ci := 3) (v := .ref (ao1 1)) (C := RX3) (T := TX3) (N := 3) hx hb htB ziX3 hown hK hP 3 rfl rfl 1 (by decide) (htB _ zm_24) (fun _ h9 => h9) rfl dX3_become_12 ?_
  refine lv_aload_n hx hb dX3_become_15 rfl (lv_at hl 0 rfl) ?_
  refine va_get (D := D) (ci := 3) (v := .ref (ah 1)) (C := RX3) (T := TX3) (N := 3) hx hb htB ziX3 hown hK hP 0 rfl rfl 1 (by decide) (htB _ zm_24) (fun _ h9 => h9) rfl dX3_become_16 ?_
  have hPc : va_P D zCl ([((ao1 1), .inl (cy, 56, .inl (So1 1)))] ++ ([((ah 1), .inl (cy, 56, .inl (S_8 1)))])) H := hP.sub [5, 2] rfl
  have hDc : va_D A ([((ao1 1), .inl (cy, 56, .inl (So1 1)))] ++ ([((ah 1), .inl (cy, 56, .inl (S_8 1)))])) := hD.sub [5, 2] (by decide) rfl
  refine zc_v (ws' := fun u => ((bX3 ah cy (va_up S_8 1 u)) ++ ((bX3 ao1 cy So1)))) (va_runSN (As := [.ref (ao1 1), .ref (ah 1)]) (rest := []) ⟨hx, hb, hml, hown, htB⟩ (c_X4_copyRow l D cy (ao1 1) (ah 1) H.size 56 56 (So1 1) (S_8 1) h) ⟨va_cnB 2 htB (zgN zm_10) rfl rfl rfl (hN _ zm_141) (htB _ zm_4) hd_X4_copyRow.2 ⟨Nat.le_of_ble_eq_true rfl, Nat.le_of_ble_eq_true rfl⟩, htB _ zm_11, trivial⟩ ⟨zM_blind, zM_pre hPc hK hN hDc⟩ rfl rfl hl.1 rfl (lv_room (Nat.le_of_ble_eq_true rfl)) dX3_become_19 ⟨Nat.zero_le _, Nat.zero_le _⟩) hS hA hP hD [5, 2] [0, 1, 3, 4] [0, 1, 5, 2, 3, 4] (by decide) rfl (by decide) (by decide) rfl (fun u => rfl) (fun u => rfl) (fun u => rfl) (fun u H locs h hP hD hS => ?_)
  obtain ⟨gf1_19, eu⟩ : ∃ z, z = u := ⟨_, rfl⟩
  subst eu
  replace hP : va_P D zCl ((bX3 ah cy (va_up S_8 1 gf1_19)) ++ ((bX3 ao1 cy So1))) H := hP
  replace hD : va_D A ((bX3 ah cy (va_up S_8 1 gf1_19)) ++ ((bX3 ao1 cy So1))) := hD
  obtain ⟨S_19, eS_19⟩ : ∃ z : zT, z = (va_up S_8 1 gf1_19) := ⟨_, rfl⟩
  replace h := h S_19 eS_19
  replace hP : va_P D zCl ((bX3 ah cy S_19) ++ ((bX3 ao1 cy So1))) H := by rw [eS_19]; exact hP
  replace hD : va_D A ((bX3 ah cy S_19) ++ ((bX3 ao1 cy So1))) := by rw [eS_19]; exact hD
  refine lv_aload_n hx hb dX3_become_22 rfl (lv_at hl 0 rfl) ?_
  refine lv_aload_n hx hb dX3_become_23 rfl (lv_at hl 1 rfl) ?_
  refine va_get (D := D) (ci := 3) (v := .int (So1 2 0)) (C := RX3) (T := TX3) (N := 3) hx hb htB ziX3 hown hK hP 3 rfl rfl 2 (by decide) (htB _ zm_123) (fun _ h9 => h9) rfl dX3_become_24 ?_
  refine va_put (D := D) (ci := 3) (v := .int (So1 2 0)) (ty := .int) (C := RX3) (T := TX3) (N := 3) hx hb htB ziX3 tyX3 tyX3_ok nmX3 hown hK hP hD hS 0 rfl rfl 2 (by decide) (htB _ zm_123) (fun _ h9 => h9) rfl (tyX3_ok 2 (by decide)) rfl rfl (Nat.le_of_ble_eq_true rfl) dX3_become_27 (fun H locs hP hD hS => ?_)
  obtain ⟨S_27, eS_27⟩ : ∃ z : zT, z = (va_up S_19 2 (fun _ => (So1 2 0))) := ⟨_, rfl⟩
  replace h := h S_27 eS_27
  replace hP : va_P D zCl ((bX3 ah cy S_27) ++ ((bX3 ao1 cy So1))) H := by rw [eS_27]; exact hP
  replace hD : va_D A ((bX3 ah cy S_27) ++ ((bX3 ao1 cy So1))) := by rw [eS_27]; exact hD
  exact W.vret hx hb hr (fun t ht hW => ⟨⟨S_27, rfl, h, zP_h ht hP⟩, hS.F ht⟩) hS.2.2 dX3_become_30
set_option maxHeartbeats 4000000 in
set_option maxRecDepth 100000 in
theorem c_X4_isFilmCustom (l : Launch) (D : va_G) (cy : ClassId)  (i0 : Int32) {Q : Int32 → Prop} (h : wp_X4_isFilmCustom i0 Q) : Met l yX4_isFilmCustom w_X4_isFilmCustom rm_X4_isFilmCustom (va_Pc [.int i0] (zR D cy ([] : va_W))) (vp_Si Q) 0 0 (fun _ => False) := by
  refine zOf_r (by decide) (Nat.le_of_ble_eq_true rfl) ?_
  intro p e s m below meth c ls hx hb hr hml hown htB hlocks hK hN hP hl
  replace hl : lv_has ls 1 [(0, .int i0)] := hl
  refine lv_iload_n hx hb dX4_isFilmCustom_0 rfl (lv_at hl 0 rfl) ?_
  refine lv_iconst (v := (1 : Int32)) hx hb dX4_isFilmCustom_1 (by decide) ?_
  refine lv_icmp_lt (tgt := 14) hx hb dX4_isFilmCustom_2 (by decide) (fun c2 => ?_) (fun c2 => ?_)
  · replace h := And.left h c2
    refine lv_iconst (v := (0 : Int32)) hx hb dX4_isFilmCustom_14 (by decide) ?_
    exact W.zret (v := (0 : Int32)) hx hb hr rfl (fun t ht hW => ⟨_, rfl, h, ht⟩) (fun q hq => by cases hq) dX4_isFilmCustom_15
  · replace h := And.right h c2
    refine lv_iload_n hx hb dX4_isFilmCustom_5 rfl (lv_at hl 0 rfl) ?_
    refine lv_iconst (v := (3 : Int32)) hx hb dX4_isFilmCustom_6 (by decide) ?_
    refine lv_icmp_gt (tgt := 14) hx hb dX4_isFilmCustom_7 (by decide) (fun c7 => ?_) (fun c7 => ?_)
    · replace h := And.left h c7
      refine lv_iconst (v := (0 : Int32)) hx hb dX4_isFilmCustom_14 (by decide) ?_
      exact W.zret (v := (0 : Int32)) hx hb hr rfl (fun t ht hW => ⟨_, rfl, h, ht⟩) (fun q hq => by cases hq) dX4_isFilmCustom_15
    · replace h := And.right h c7
      refine lv_iconst (v := (1 : Int32)) hx hb dX4_isFilmCustom_10 (by decide) ?_
      refine lv_goto (tgt := 15) hx hb dX4_isFilmCustom_11 (by decide) ?_
      exact W.zret (v := (1 : Int32)) hx hb hr rfl (fun t ht hW => ⟨_, rfl, h, ht⟩) (fun q hq => by cases hq) dX4_isFilmCustom_15

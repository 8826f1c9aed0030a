section LAWC
variable {p : Program} {l : Launch} {e : Env} {s : State} {m : MethodId} {below : List Frame} {meth : Method} {c : Code} {D : va_G} {cy : ClassId} {b L : Nat} {xs : Nat → Int32} {ah an am af ai aj al ag az : Nat → Nat} {i : Nat}
set_option maxHeartbeats 4000000 in
set_option maxRecDepth 100000 in
theorem lc_0 (C : zLC p l e s m below meth c D cy b L xs ah an am af ai aj al ag az i) (hi : i + 5 ≤ L) (hL : L ≤ 2560) (cont : zLs1 p l e s m below meth c D cy b L xs ah an am af ai aj al ag az i 1017) : zLs1 p l e s m below meth c D cy b L xs ah an am af ai aj al ag az i 196 := by
  obtain ⟨⟨hx, hb, hr, hml, hown0, hts, hX, hbl, hlocks, hgv⟩, hK, hN, hC⟩ := C
  intro S Sn Sm Sf Si Sj Sl Sg M H locs ls hP hD hS hI hl
  have hown : s.vm.findClass RL = some m.cls := hown0
  have htB : ∀ w ∈ zB, w.before #[Value.ref b] s = true := fun w h => hts w (List.mem_filter.mp h).1
  have hA : ∀ q : Nat, s.heap.size ≤ q → (fun q : Nat => s.heap.size ≤ q) q := fun _ h => h
  have hbA : ¬ (fun q : Nat => s.heap.size ≤ q) b := Nat.not_le.mpr hbl
  have hin1 : vp_in (nI i + (1 : Int32)) L := by rw [show nI i + (1 : Int32) = nI (i + 1) from nI_add i 1]; exact vp_in_nI (by omega) (by omega)
  have hin2 : vp_in (nI i + (2 : Int32)) L := by rw [show nI i + (2 : Int32) = nI (i + 2) from nI_add i 2]; exact vp_in_nI (by omega) (by omega)
  have hin3 : vp_in (nI i + (3 : Int32)) L := by rw [show nI i + (3 : Int32) = nI (i + 3) from nI_add i 3]; exact vp_in_nI (by omega) (by omega)
  have hin4 : vp_in (nI i + (4 : Int32)) L := by rw [show nI i + (4 : Int32) = nI (i + 4) from nI_add i 4]; exact vp_in_nI (by omega) (by omega)
  refine lv_aload_n hx hb dL_law_196 rfl (lv_at hl 1 rfl) ?_
  refine lv_aload_n hx hb dL_law_197 rfl (lv_at hl 0 rfl) ?_
  refine lv_iload_n hx hb dL_law_198 rfl (lv_at hl 3 rfl) ?_
  refine lv_iconst (v := (1 : Int32)) hx hb dL_law_199 (by decide) ?_
  refine lv_iadd hx hb dL_law_200 ?_
  refine va_sld hx hb hX hbl hbA hS (hin1) dL_law_201 ?_
  have hsp : (zFl [bX4 ah an am af ai aj al ag cy S, bX3 an cy Sn, bX3 am cy Sm, bX0 af cy Sf, bX3 ai cy Si, bX0 aj cy Sj, bX2 al cy Sl, bX1 ag cy Sg, bX5 az cy M]).Perm ((zFl [bX3 an cy Sn, bX3 am cy Sm, bX0 af cy Sf, bX3 ai cy Si, bX0 aj cy Sj, bX1 ag cy Sg, bX5 az cy M]) ++ ((bX4 ah an am af ai aj al ag cy S) ++ ((bX2 al cy Sl)))) := zsp (n := 9) rfl [0, 6] [1, 2, 3, 4, 5, 7, 8] (by decide)
  have hPc : va_P D zCl ((bX4 ah an am af ai aj al ag cy S) ++ ((bX2 al cy Sl))) H := zP_r (zP_perm hP hsp)
  have hDc : va_D (fun q : Nat => s.heap.size ≤ q) ((bX4 ah an am af ai aj al ag cy S) ++ ((bX2 al cy Sl))) := zD_r (zD_perm hD hsp)
  refine zc_p (wd' := fun u => (zFl [bX4 ah an am af ai aj al ag cy (u.1), bX3 an cy Sn, bX3 am cy Sm, bX0 af cy Sf, bX3 ai cy Si, bX0 aj cy Sj, bX2 al cy (u.2), bX1 ag cy Sg, bX5 az cy M])) (va_runV (As := [.int (xs (nI i + (1 : Int32)).toNatClampNeg)]) (rest := []) ⟨hx, hb, hml, hown, htB⟩ (c_X4_letter l D cy ah an am af ai aj al ag H.size (xs (nI i + (1 : Int32)).toNatClampNeg) S Sl (ok_letter hI)) (cwV 1 htB (zgV zm_508 zm_509 zm_510 zm_4 zm_511) rfl rfl rfl hd_X4_letter ⟨Nat.le_of_ble_eq_true rfl, Nat.le_of_ble_eq_true rfl⟩) ⟨zM_blind, va_recv hK hPc (ci := 4) (q0 := 0) rfl rfl, zM_pre hPc hK hN hDc⟩ rfl rfl hl.1 rfl (lv_room (Nat.le_of_ble_eq_true rfl)) dL_law_202 ⟨Nat.le_of_ble_eq_true rfl, Nat.le_of_ble_eq_true rfl⟩) hS hA hP hD hsp (fun u => zsp (n := 9) rfl [0, 6] [1, 2, 3, 4, 5, 7, 8] (by decide)) (fun u => rfl) (fun r1 u H locs h hP hD hS => ?_)
  obtain ⟨S_1, Sl_1⟩ := u
  replace hP : va_P D zCl (zFl [bX4 ah an am af ai aj al ag cy S_1, bX3 an cy Sn, bX3 am cy Sm, bX0 af cy Sf, bX3 ai cy Si, bX0 aj cy Sj, bX2 al cy Sl_1, bX1 ag cy Sg, bX5 az cy M]) H := hP
  replace hD : va_D (fun q : Nat => s.heap.size ≤ q) (zFl [bX4 ah an am af ai aj al ag cy S_1, bX3 an cy Sn, bX3 am cy Sm, bX0 af cy Sf, bX3 ai cy Si, bX0 aj cy Sj, bX2 al cy Sl_1, bX1 ag cy Sg, bX5 az cy M]) := hD
  refine lv_aload_n hx hb dL_law_205 rfl (lv_at hl 2 rfl) ?_
  refine lv_aload_n hx hb dL_law_206 rfl (lv_at hl 0 rfl) ?_
  refine lv_iload_n hx hb dL_law_207 rfl (lv_at hl 3 rfl) ?_
  refine lv_iconst (v := (1 : Int32)) hx hb dL_law_208 (by decide) ?_
  refine lv_iadd hx hb dL_law_209 ?_
  refine va_sld hx hb hX hbl hbA hS (hin1) dL_law_210 ?_
  have hsp : (zFl [bX4 ah an am af ai aj al ag cy S_1, bX3 an cy Sn, bX3 am cy Sm, bX0 af cy Sf, bX3 ai cy Si, bX0 aj cy Sj, bX2 al cy Sl_1, bX1 ag cy Sg, bX5 az cy M]).Perm ((zFl [bX4 ah an am af ai aj al ag cy S_1, bX3 an cy Sn, bX3 am cy Sm, bX0 af cy Sf, bX3 ai cy Si, bX0 aj cy Sj, bX2 al cy Sl_1, bX1 ag cy Sg]) ++ (bX5 az cy M)) := zsp (n := 9) rfl [8] [0, 1, 2, 3, 4, 5, 6, 7] (by decide)
  have hPc : va_P D zCl (bX5 az cy M) H := zP_r (zP_perm hP hsp)
  have hDc : va_D (fun q : Nat => s.heap.size ≤ q) (bX5 az cy M) := zD_r (zD_perm hD hsp)
  refine zc_p (wd' := fun u => (zFl [bX4 ah an am af ai aj al ag cy S_1, bX3 an cy Sn, bX3 am cy Sm, bX0 af cy Sf, bX3 ai cy Si, bX0 aj cy Sj, bX2 al cy Sl_1, bX1 ag cy Sg, bX5 az cy (u)])) (va_runV (As := [.int (xs (nI i + (1 : Int32)).toNatClampNeg)]) (rest := [.int r1]) ⟨hx, hb, hml, hown, htB⟩ (c_X5_letter l D cy az H.size (xs (nI i + (1 : Int32)).toNatClampNeg) M (Q := fun r' M' => r' = r1 ∧ Inv S_1 Sn Sf Si Sj Sl_1 M') h) (cwV 1 htB (zgV zm_512 zm_513 zm_514 zm_263 zm_515) rfl rfl rfl hd_X5_letter ⟨Nat.le_of_ble_eq_true rfl, Nat.le_of_ble_eq_true rfl⟩) ⟨zM_blind, va_recv hK hPc (ci := 5) (q0 := 0) rfl rfl, zM_pre hPc hK hN hDc⟩ rfl rfl hl.1 rfl (lv_room (Nat.le_of_ble_eq_true rfl)) dL_law_211 ⟨Nat.le_of_ble_eq_true rfl, Nat.le_of_ble_eq_true rfl⟩) hS hA hP hD hsp (fun u => zsp (n := 9) rfl [8] [0, 1, 2, 3, 4, 5, 6, 7] (by decide)) (fun u => rfl) (fun r2 u H locs h hP hD hS => ?_)
  obtain ⟨M_2, eu⟩ : ∃ z, z = u := ⟨_, rfl⟩
  subst eu
  replace hP : va_P D zCl (zFl [bX4 ah an am af ai aj al ag cy S_1, bX3 an cy Sn, bX3 am cy Sm, bX0 af cy Sf, bX3 ai cy Si, bX0 aj cy Sj, bX2 al cy Sl_1, bX1 ag cy Sg, bX5 az cy M_2]) H := hP
  replace hD : va_D (fun q : Nat => s.heap.size ≤ q) (zFl [bX4 ah an am af ai aj al ag cy S_1, bX3 an cy Sn, bX3 am cy Sm, bX0 af cy Sf, bX3 ai cy Si, bX0 aj cy Sj, bX2 al cy Sl_1, bX1 ag cy Sg, bX5 az cy M_2]) := hD
  refine lv_icmp_eq (tgt := 1017) hx hb dL_law_214 (by decide) (fun _ => ?_) (fun cn => absurd h.1.symm cn)
  exact cont S_1 Sn Sm Sf Si Sj Sl_1 Sg M_2 H locs ls hP hD hS h.2 hl
set_option maxHeartbeats 4000000 in
set_option maxRecDepth 100000 in
theorem lc_1 (C : zLC p l e s m below meth c D cy b L xs ah an am af ai aj al ag az i) (hi : i + 5 ≤ L) (hL : L ≤ 2560) (cont : zLs1 p l e s m below meth c D cy b L xs ah an am af ai aj al ag az i 1017) : zLs1 p l e s m below meth c D cy b L xs ah an am af ai aj al ag az i 219 := by
  obtain ⟨⟨hx, hb, hr, hml, hown0, hts, hX, hbl, hlocks, hgv⟩, hK, hN, hC⟩ := C
  intro S Sn Sm Sf Si Sj Sl Sg M H locs ls hP hD hS hI hl
  have hown : s.vm.findClass RL = some m.cls := hown0
  have htB : ∀ w ∈ zB, w.before #[Value.ref b] s = true := fun w h => hts w (List.mem_filter.mp h).1
  have hA : ∀ q : Nat, s.heap.size ≤ q → (fun q : Nat => s.heap.size ≤ q) q := fun _ h => h
  have hbA : ¬ (fun q : Nat => s.heap.size ≤ q) b := Nat.not_le.mpr hbl
  have hin1 : vp_in (nI i + (1 : Int32)) L := by rw [show nI i + (1 : Int32) = nI (i + 1) from nI_add i 1]; exact vp_in_nI (by omega) (by omega)
  have hin2 : vp_in (nI i + (2 : Int32)) L := by rw [show nI i + (2 : Int32) = nI (i + 2) from nI_add i 2]; exact vp_in_nI (by omega) (by omega)
  have hin3 : vp_in (nI i + (3 : Int32)) L := by rw [show nI i + (3 : Int32) = nI (i + 3) from nI_add i 3]; exact vp_in_nI (by omega) (by omega)
  have hin4 : vp_in (nI i + (4 : Int32)) L := by rw [show nI i + (4 : Int32) = nI (i + 4) from nI_add i 4]; exact vp_in_nI (by omega) (by omega)
  refine lv_aload_n hx hb dL_law_219 rfl (lv_at hl 1 rfl) ?_
  have hsp : (zFl [bX4 ah an am af ai aj al ag cy S, bX3 an cy Sn, bX3 am cy Sm, bX0 af cy Sf, bX3 ai cy Si, bX0 aj cy Sj, bX2 al cy Sl, bX1 ag cy Sg, bX5 az cy M]).Perm ((zFl [bX3 am cy Sm, bX0 af cy Sf, bX3 ai cy Si, bX0 aj cy Sj, bX1 ag cy Sg, bX5 az cy M]) ++ ((bX4 ah an am af ai aj al ag cy S) ++ ((bX3 an cy Sn) ++ ((bX2 al cy Sl))))) := zsp (n := 9) rfl [0, 1, 6] [2, 3, 4, 5, 7, 8] (by decide)
  have hPc : va_P D zCl ((bX4 ah an am af ai aj al ag cy S) ++ ((bX3 an cy Sn) ++ ((bX2 al cy Sl)))) H := zP_r (zP_perm hP hsp)
  have hDc : va_D (fun q : Nat => s.heap.size ≤ q) ((bX4 ah an am af ai aj al ag cy S) ++ ((bX3 an cy Sn) ++ ((bX2 al cy Sl)))) := zD_r (zD_perm hD hsp)
  refine zc_p (wd' := fun u => (zFl [bX4 ah an am af ai aj al ag cy S, bX3 an cy (u.1), bX3 am cy Sm, bX0 af cy Sf, bX3 ai cy Si, bX0 aj cy Sj, bX2 al cy (u.2), bX1 ag cy Sg, bX5 az cy M])) (va_runV (As := []) (rest := []) ⟨hx, hb, hml, hown, htB⟩ (c_X4_way l D cy ah an am af ai aj al ag H.size S Sn Sl (ok_way hI)) (cwV 0 htB (zgV zm_516 zm_517 zm_518 zm_4 zm_519) rfl rfl rfl hd_X4_way ⟨Nat.le_of_ble_eq_true rfl, Nat.le_of_ble_eq_true rfl⟩) ⟨zMC_blind, va_recv hK hPc (ci := 4) (q0 := 0) rfl rfl, zMC_pre hPc hK hN hDc hS hA hC⟩ rfl rfl hl.1 rfl (lv_room (Nat.le_of_ble_eq_true rfl)) dL_law_220 ⟨Nat.le_of_ble_eq_true rfl, Nat.le_of_ble_eq_true rfl⟩) hS hA hP hD hsp (fun u => zsp (n := 9) rfl [0, 1, 6] [2, 3, 4, 5, 7, 8] (by decide)) (fun u => rfl) (fun r1 u H locs h hP hD hS => ?_)
  obtain ⟨Sn_1, Sl_1⟩ := u
  replace hP : va_P D zCl (zFl [bX4 ah an am af ai aj al ag cy S, bX3 an cy Sn_1, bX3 am cy Sm, bX0 af cy Sf, bX3 ai cy Si, bX0 aj cy Sj, bX2 al cy Sl_1, bX1 ag cy Sg, bX5 az cy M]) H := hP
  replace hD : va_D (fun q : Nat => s.heap.size ≤ q) (zFl [bX4 ah an am af ai aj al ag cy S, bX3 an cy Sn_1, bX3 am cy Sm, bX0 af cy Sf, bX3 ai cy Si, bX0 aj cy Sj, bX2 al cy Sl_1, bX1 ag cy Sg, bX5 az cy M]) := hD
  refine lv_aload_n hx hb dL_law_223 rfl (lv_at hl 2 rfl) ?_
  have hsp : (zFl [bX4 ah an am af ai aj al ag cy S, bX3 an cy Sn_1, bX3 am cy Sm, bX0 af cy Sf, bX3 ai cy Si, bX0 aj cy Sj, bX2 al cy Sl_1, bX1 ag cy Sg, bX5 az cy M]).Perm ((zFl [bX4 ah an am af ai aj al ag cy S, bX3 an cy Sn_1, bX3 am cy Sm, bX0 af cy Sf, bX3 ai cy Si, bX0 aj cy Sj, bX2 al cy Sl_1, bX1 ag cy Sg]) ++ (bX5 az cy M)) := zsp (n := 9) rfl [8] [0, 1, 2, 3, 4, 5, 6, 7] (by decide)
  have hPc : va_P D zCl (bX5 az cy M) H := zP_r (zP_perm hP hsp)
  have hDc : va_D (fun q : Nat => s.heap.size ≤ q) (bX5 az cy M) := zD_r (zD_perm hD hsp)
  refine zc_p (wd' := fun u => (zFl [bX4 ah an am af ai aj al ag cy S, bX3 an cy Sn_1, bX3 am cy Sm, bX0 af cy Sf, bX3 ai cy Si, bX0 aj cy Sj, bX2 al cy Sl_1, bX1 ag cy Sg, bX5 az cy (u)])) (va_runV (As := []) (rest := [.int r1]) ⟨hx, hb, hml, hown, htB⟩ (c_X5_way l D cy az H.size M (Q := fun r' M' => r' = r1 ∧ Inv S Sn_1 Sf Si Sj Sl_1 M') h) (cwV 0 htB (zgV zm_520 zm_521 zm_522 zm_263 zm_523) rfl rfl rfl hd_X5_way ⟨Nat.le_of_ble_eq_true rfl, Nat.le_of_ble_eq_true rfl⟩) ⟨zM_blind, va_recv hK hPc (ci := 5) (q0 := 0) rfl rfl, zM_pre hPc hK hN hDc⟩ rfl rfl hl.1 rfl (lv_room (Nat.le_of_ble_eq_true rfl)) dL_law_224 ⟨Nat.le_of_ble_eq_true rfl, Nat.le_of_ble_eq_true rfl⟩) hS hA hP hD hsp (fun u => zsp (n := 9) rfl [8] [0, 1, 2, 3, 4, 5, 6, 7] (by decide)) (fun u => rfl) (fun r2 u H locs h hP hD hS => ?_)
  obtain ⟨M_2, eu⟩ : ∃ z, z = u := ⟨_, rfl⟩
  subst eu
  replace hP : va_P D zCl (zFl [bX4 ah an am af ai aj al ag cy S, bX3 an cy Sn_1, bX3 am cy Sm, bX0 af cy Sf, bX3 ai cy Si, bX0 aj cy Sj, bX2 al cy Sl_1, bX1 ag cy Sg, bX5 az cy M_2]) H := hP
  replace hD : va_D (fun q : Nat => s.heap.size ≤ q) (zFl [bX4 ah an am af ai aj al ag cy S, bX3 an cy Sn_1, bX3 am cy Sm, bX0 af cy Sf, bX3 ai cy Si, bX0 aj cy Sj, bX2 al cy Sl_1, bX1 ag cy Sg, bX5 az cy M_2]) := hD
  refine lv_icmp_eq (tgt := 1017) hx hb dL_law_227 (by decide) (fun _ => ?_) (fun cn => absurd h.1.symm cn)
  exact cont S Sn_1 Sm Sf Si Sj Sl_1 Sg M_2 H locs ls hP hD hS h.2 hl
set_option maxHeartbeats 4000000 in
set_option maxRecDepth 100000 in
theorem lc_2 (C : zLC p l e s m below meth c D cy b L xs ah an am af ai aj al ag az i) (hi : i + 5 ≤ L) (hL : L ≤ 2560) (cont : zLs1 p l e s m below meth c D cy b L xs ah an am af ai aj al ag az i 1017) : zLs1 p l e s m below meth c D cy b L xs ah an am af ai aj al ag az i 232 := by
  obtain ⟨⟨hx, hb, hr, hml, hown0, hts, hX, hbl, hlocks, hgv⟩, hK, hN, hC⟩ := C
  intro S Sn Sm Sf Si Sj Sl Sg M H locs ls hP hD hS hI hl
  have hown : s.vm.findClass RL = some m.cls := hown0
  have htB : ∀ w ∈ zB, w.before #[Value.ref b] s = true := fun w h => hts w (List.mem_filter.mp h).1
  have hA : ∀ q : Nat, s.heap.size ≤ q → (fun q : Nat => s.heap.size ≤ q) q := fun _ h => h
  have hbA : ¬ (fun q : Nat => s.heap.size ≤ q) b := Nat.not_le.mpr hbl
  have hin1 : vp_in (nI i + (1 : Int32)) L := by rw [show nI i + (1 : Int32) = nI (i + 1) from nI_add i 1]; exact vp_in_nI (by omega) (by omega)
  have hin2 : vp_in (nI i + (2 : Int32)) L := by rw [show nI i + (2 : Int32) = nI (i + 2) from nI_add i 2]; exact vp_in_nI (by omega) (by omega)
  have hin3 : vp_in (nI i + (3 : Int32)) L := by rw [show nI i + (3 : Int32) = nI (i + 3) from nI_add i 3]; exact vp_in_nI (by omega) (by omega)
  have hin4 : vp_in (nI i + (4 : Int32)) L := by rw [show nI i + (4 : Int32) = nI (i + 4) from nI_add i 4]; exact vp_in_nI (by omega) (by omega)
  refine lv_aload_n hx hb dL_law_232 rfl (lv_at hl 1 rfl) ?_
  refine lv_aload_n hx hb dL_law_233 rfl (lv_at hl 0 rfl) ?_
  refine lv_iload_n hx hb dL_law_234 rfl (lv_at hl 3 rfl) ?_
  refine lv_iconst (v := (1 : Int32)) hx hb dL_law_235 (by decide) ?_
  refine lv_iadd hx hb dL_law_236 ?_
  refine va_sld hx hb hX hbl hbA hS (hin1) dL_law_237 ?_
  refine lv_aload_n hx hb dL_law_238 rfl (lv_at hl 0 rfl) ?_
  refine lv_iload_n hx hb dL_law_239 rfl (lv_at hl 3 rfl) ?_
  refine lv_iconst (v := (2 : Int32)) hx hb dL_law_240 (by decide) ?_
  refine lv_iadd hx hb dL_law_241 ?_
  refine va_sld hx hb hX hbl hbA hS (hin2) dL_law_242 ?_
  have hsp : (zFl [bX4 ah an am af ai aj al ag cy S, bX3 an cy Sn, bX3 am cy Sm, bX0 af cy Sf, bX3 ai cy Si, bX0 aj cy Sj, bX2 al cy Sl, bX1 ag cy Sg, bX5 az cy M]).Perm ((zFl [bX3 am cy Sm, bX0 af cy Sf, bX3 ai cy Si, bX0 aj cy Sj, bX2 al cy Sl, bX1 ag cy Sg, bX5 az cy M]) ++ ((bX4 ah an am af ai aj al ag cy S) ++ ((bX3 an cy Sn)))) := zsp (n := 9) rfl [0, 1] [2, 3, 4, 5, 6, 7, 8] (by decide)
  have hPc : va_P D zCl ((bX4 ah an am af ai aj al ag cy S) ++ ((bX3 an cy Sn))) H := zP_r (zP_perm hP hsp)
  have hDc : va_D (fun q : Nat => s.heap.size ≤ q) ((bX4 ah an am af ai aj al ag cy S) ++ ((bX3 an cy Sn))) := zD_r (zD_perm hD hsp)
  refine zc_p (wd' := fun u => (zFl [bX4 ah an am af ai aj al ag cy (u), bX3 an cy Sn, bX3 am cy Sm, bX0 af cy Sf, bX3 ai cy Si, bX0 aj cy Sj, bX2 al cy Sl, bX1 ag cy Sg, bX5 az cy M])) (va_runV (As := [.int (xs (nI i + (1 : Int32)).toNatClampNeg), .int (xs (nI i + (2 : Int32)).toNatClampNeg)]) (rest := []) ⟨hx, hb, hml, hown, htB⟩ (c_X4_walker l D cy ah an am af ai aj al ag H.size Sn (xs (nI i + (1 : Int32)).toNatClampNeg) (xs (nI i + (2 : Int32)).toNatClampNeg) S (ok_walker hI)) (cwV 2 htB (zgV zm_524 zm_525 zm_526 zm_4 zm_527) rfl rfl rfl hd_X4_walker ⟨Nat.le_of_ble_eq_true rfl, Nat.le_of_ble_eq_true rfl⟩) ⟨zM_blind, va_recv hK hPc (ci := 4) (q0 := 0) rfl rfl, zM_pre hPc hK hN hDc⟩ rfl rfl hl.1 rfl (lv_room (Nat.le_of_ble_eq_true rfl)) dL_law_243 ⟨Nat.le_of_ble_eq_true rfl, Nat.le_of_ble_eq_true rfl⟩) hS hA hP hD hsp (fun u => zsp (n := 9) rfl [0, 1] [2, 3, 4, 5, 6, 7, 8] (by decide)) (fun u => rfl) (fun r1 u H locs h hP hD hS => ?_)
  obtain ⟨S_1, eu⟩ : ∃ z, z = u := ⟨_, rfl⟩
  subst eu
  replace hP : va_P D zCl (zFl [bX4 ah an am af ai aj al ag cy S_1, bX3 an cy Sn, bX3 am cy Sm, bX0 af cy Sf, bX3 ai cy Si, bX0 aj cy Sj, bX2 al cy Sl, bX1 ag cy Sg, bX5 az cy M]) H := hP
  replace hD : va_D (fun q : Nat => s.heap.size ≤ q) (zFl [bX4 ah an am af ai aj al ag cy S_1, bX3 an cy Sn, bX3 am cy Sm, bX0 af cy Sf, bX3 ai cy Si, bX0 aj cy Sj, bX2 al cy Sl, bX1 ag cy Sg, bX5 az cy M]) := hD
  refine lv_aload_n hx hb dL_law_246 rfl (lv_at hl 2 rfl) ?_
  refine lv_aload_n hx hb dL_law_247 rfl (lv_at hl 0 rfl) ?_
  refine lv_iload_n hx hb dL_law_248 rfl (lv_at hl 3 rfl) ?_
  refine lv_iconst (v := (1 : Int32)) hx hb dL_law_249 (by decide) ?_
  refine lv_iadd hx hb dL_law_250 ?_
  refine va_sld hx hb hX hbl hbA hS (hin1) dL_law_251 ?_
  refine lv_aload_n hx hb dL_law_252 rfl (lv_at hl 0 rfl) ?_
  refine lv_iload_n hx hb dL_law_253 rfl (lv_at hl 3 rfl) ?_
  refine lv_iconst (v := (2 : Int32)) hx hb dL_law_254 (by decide) ?_
  refine lv_iadd hx hb dL_law_255 ?_
  refine va_sld hx hb hX hbl hbA hS (hin2) dL_law_256 ?_
  have hsp : (zFl [bX4 ah an am af ai aj al ag cy S_1, bX3 an cy Sn, bX3 am cy Sm, bX0 af cy Sf, bX3 ai cy Si, bX0 aj cy Sj, bX2 al cy Sl, bX1 ag cy Sg, bX5 az cy M]).Perm ((zFl [bX4 ah an am af ai aj al ag cy S_1, bX3 an cy Sn, bX3 am cy Sm, bX0 af cy Sf, bX3 ai cy Si, bX0 aj cy Sj, bX2 al cy Sl, bX1 ag cy Sg]) ++ (bX5 az cy M)) := zsp (n := 9) rfl [8] [0, 1, 2, 3, 4, 5, 6, 7] (by decide)
  have hPc : va_P D zCl (bX5 az cy M) H := zP_r (zP_perm hP hsp)
  have hDc : va_D (fun q : Nat => s.heap.size ≤ q) (bX5 az cy M) := zD_r (zD_perm hD hsp)
  refine zc_p (wd' := fun u => (zFl [bX4 ah an am af ai aj al ag cy S_1, bX3 an cy Sn, bX3 am cy Sm, bX0 af cy Sf, bX3 ai cy Si, bX0 aj cy Sj, bX2 al cy Sl, bX1 ag cy Sg, bX5 az cy (u)])) (va_runV (As := [.int (xs (nI i + (1 : Int32)).toNatClampNeg), .int (xs (nI i + (2 : Int32)).toNatClampNeg)]) (rest := [.int r1]) ⟨hx, hb, hml, hown, htB⟩ (c_X5_walker l D cy az H.size (xs (nI i + (1 : Int32)).toNatClampNeg) (xs (nI i + (2 : Int32)).toNatClampNeg) M (Q := fun r' M' => r' = r1 ∧ Inv S_1 Sn Sf Si Sj Sl M') h) (cwV 2 htB (zgV zm_528 zm_529 zm_530 zm_263 zm_531) rfl rfl rfl hd_X5_walker ⟨Nat.le_of_ble_eq_true rfl, Nat.le_of_ble_eq_true rfl⟩) ⟨zM_blind, va_recv hK hPc (ci := 5) (q0 := 0) rfl rfl, zM_pre hPc hK hN hDc⟩ rfl rfl hl.1 rfl (lv_room (Nat.le_of_ble_eq_true rfl)) dL_law_257 ⟨Nat.le_of_ble_eq_true rfl, Nat.le_of_ble_eq_true rfl⟩) hS hA hP hD hsp (fun u => zsp (n := 9) rfl [8] [0, 1, 2, 3, 4, 5, 6, 7] (by decide)) (fun u => rfl) (fun r2 u H locs h hP hD hS => ?_)
  obtain ⟨M_2, eu⟩ : ∃ z, z = u := ⟨_, rfl⟩
  subst eu
  replace hP : va_P D zCl (zFl [bX4 ah an am af ai aj al ag cy S_1, bX3 an cy Sn, bX3 am cy Sm, bX0 af cy Sf, bX3 ai cy Si, bX0 aj cy Sj, bX2 al cy Sl, bX1 ag cy Sg, bX5 az cy M_2]) H := hP
  replace hD : va_D (fun q : Nat => s.heap.size ≤ q) (zFl [bX4 ah an am af ai aj al ag cy S_1, bX3 an cy Sn, bX3 am cy Sm, bX0 af cy Sf, bX3 ai cy Si, bX0 aj cy Sj, bX2 al cy Sl, bX1 ag cy Sg, bX5 az cy M_2]) := hD
  refine lv_icmp_eq (tgt := 1017) hx hb dL_law_260 (by decide) (fun _ => ?_) (fun cn => absurd h.1.symm cn)
  exact cont S_1 Sn Sm Sf Si Sj Sl Sg M_2 H locs ls hP hD hS h.2 hl
set_option maxHeartbeats 4000000 in
set_option maxRecDepth 100000 in
theorem lc_3 (C : zLC p l e s m below meth c D cy b L xs ah an am af ai aj al ag az i) (hi : i + 5 ≤ L) (hL : L ≤ 2560) (cont : zLs1 p l e s m below meth c D cy b L xs ah an am af ai aj al ag az i 1017) : zLs1 p l e s m below meth c D cy b L xs ah an am af ai aj al ag az i 265 := by
  obtain ⟨⟨hx, hb, hr, hml, hown0, hts, hX, hbl, hlocks, hgv⟩, hK, hN, hC⟩ := C
  intro S Sn Sm Sf Si Sj Sl Sg M H locs ls hP hD hS hI hl
  have hown : s.vm.findClass RL = some m.cls := hown0
  have htB : ∀ w ∈ zB, w.before #[Value.ref b] s = true := fun w h => hts w (List.mem_filter.mp h).1
  have hA : ∀ q : Nat, s.heap.size ≤ q → (fun q : Nat => s.heap.size ≤ q) q := fun _ h => h
  have hbA : ¬ (fun q : Nat => s.heap.size ≤ q) b := Nat.not_le.mpr hbl
  have hin1 : vp_in (nI i + (1 : Int32)) L := by rw [show nI i + (1 : Int32) = nI (i + 1) from nI_add i 1]; exact vp_in_nI (by omega) (by omega)
  have hin2 : vp_in (nI i + (2 : Int32)) L := by rw [show nI i + (2 : Int32) = nI (i + 2) from nI_add i 2]; exact vp_in_nI (by omega) (by omega)
  have hin3 : vp_in (nI i + (3 : Int32)) L := by rw [show nI i + (3 : Int32) = nI (i + 3) from nI_add i 3]; exact vp_in_nI (by omega) (by omega)
  have hin4 : vp_in (nI i + (4 : Int32)) L := by rw [show nI i + (4 : Int32) = nI (i + 4) from nI_add i 4]; exact vp_in_nI (by omega) (by omega)
  refine lv_aload_n hx hb dL_law_265 rfl (lv_at hl 1 rfl) ?_
  refine lv_aload_n hx hb dL_law_266 rfl (lv_at hl 0 rfl) ?_
  refine lv_iload_n hx hb dL_law_267 rfl (lv_at hl 3 rfl) ?_
  refine lv_iconst (v := (1 : Int32)) hx hb dL_law_268 (by decide) ?_
  refine lv_iadd hx hb dL_law_269 ?_
  refine va_sld hx hb hX hbl hbA hS (hin1) dL_law_270 ?_
  refine lv_aload_n hx hb dL_law_271 rfl (lv_at hl 0 rfl) ?_
  refine lv_iload_n hx hb dL_law_272 rfl (lv_at hl 3 rfl) ?_
  refine lv_iconst (v := (2 : Int32)) hx hb dL_law_273 (by decide) ?_
  refine lv_iadd hx hb dL_law_274 ?_
  refine va_sld hx hb hX hbl hbA hS (hin2) dL_law_275 ?_
  have hsp : (zFl [bX4 ah an am af ai aj al ag cy S, bX3 an cy Sn, bX3 am cy Sm, bX0 af cy Sf, bX3 ai cy Si, bX0 aj cy Sj, bX2 al cy Sl, bX1 ag cy Sg, bX5 az cy M]).Perm ((zFl [bX3 am cy Sm, bX0 af cy Sf, bX3 ai cy Si, bX0 aj cy Sj, bX2 al cy Sl, bX1 ag cy Sg, bX5 az cy M]) ++ ((bX4 ah an am af ai aj al ag cy S) ++ ((bX3 an cy Sn)))) := zsp (n := 9) rfl [0, 1] [2, 3, 4, 5, 6, 7, 8] (by decide)
  have hPc : va_P D zCl ((bX4 ah an am af ai aj al ag cy S) ++ ((bX3 an cy Sn))) H := zP_r (zP_perm hP hsp)
  have hDc : va_D (fun q : Nat => s.heap.size ≤ q) ((bX4 ah an am af ai aj al ag cy S) ++ ((bX3 an cy Sn))) := zD_r (zD_perm hD hsp)
  refine zc_p (wd' := fun u => (zFl [bX4 ah an am af ai aj al ag cy (u.1), bX3 an cy (u.2), bX3 am cy Sm, bX0 af cy Sf, bX3 ai cy Si, bX0 aj cy Sj, bX2 al cy Sl, bX1 ag cy Sg, bX5 az cy M])) (va_runV (As := [.int (xs (nI i + (1 : Int32)).toNatClampNeg), .int (xs (nI i + (2 : Int32)).toNatClampNeg)]) (rest := []) ⟨hx, hb, hml, hown, htB⟩ (c_X4_set l D cy ah an am af ai aj al ag H.size (xs (nI i + (1 : Int32)).toNatClampNeg) (xs (nI i + (2 : Int32)).toNatClampNeg) S Sn (ok_set hI)) (cwV 2 htB (zgV zm_532 zm_533 zm_534 zm_4 zm_535) rfl rfl rfl hd_X4_set ⟨Nat.le_of_ble_eq_true rfl, Nat.le_of_ble_eq_true rfl⟩) ⟨zM_blind, va_recv hK hPc (ci := 4) (q0 := 0) rfl rfl, zM_pre hPc hK hN hDc⟩ rfl rfl hl.1 rfl (lv_room (Nat.le_of_ble_eq_true rfl)) dL_law_276 ⟨Nat.le_of_ble_eq_true rfl, Nat.le_of_ble_eq_true rfl⟩) hS hA hP hD hsp (fun u => zsp (n := 9) rfl [0, 1] [2, 3, 4, 5, 6, 7, 8] (by decide)) (fun u => rfl) (fun r1 u H locs h hP hD hS => ?_)
  obtain ⟨S_1, Sn_1⟩ := u
  replace hP : va_P D zCl (zFl [bX4 ah an am af ai aj al ag cy S_1, bX3 an cy Sn_1, bX3 am cy Sm, bX0 af cy Sf, bX3 ai cy Si, bX0 aj cy Sj, bX2 al cy Sl, bX1 ag cy Sg, bX5 az cy M]) H := hP
  replace hD : va_D (fun q : Nat => s.heap.size ≤ q) (zFl [bX4 ah an am af ai aj al ag cy S_1, bX3 an cy Sn_1, bX3 am cy Sm, bX0 af cy Sf, bX3 ai cy Si, bX0 aj cy Sj, bX2 al cy Sl, bX1 ag cy Sg, bX5 az cy M]) := hD
  refine lv_aload_n hx hb dL_law_279 rfl (lv_at hl 2 rfl) ?_
  refine lv_aload_n hx hb dL_law_280 rfl (lv_at hl 0 rfl) ?_
  refine lv_iload_n hx hb dL_law_281 rfl (lv_at hl 3 rfl) ?_
  refine lv_iconst (v := (1 : Int32)) hx hb dL_law_282 (by decide) ?_
  refine lv_iadd hx hb dL_law_283 ?_
  refine va_sld hx hb hX hbl hbA hS (hin1) dL_law_284 ?_
  refine lv_aload_n hx hb dL_law_285 rfl (lv_at hl 0 rfl) ?_
  refine lv_iload_n hx hb dL_law_286 rfl (lv_at hl 3 rfl) ?_
  refine lv_iconst (v := (2 : Int32)) hx hb dL_law_287 (by decide) ?_
  refine lv_iadd hx hb dL_law_288 ?_
  refine va_sld hx hb hX hbl hbA hS (hin2) dL_law_289 ?_
  have hsp : (zFl [bX4 ah an am af ai aj al ag cy S_1, bX3 an cy Sn_1, bX3 am cy Sm, bX0 af cy Sf, bX3 ai cy Si, bX0 aj cy Sj, bX2 al cy Sl, bX1 ag cy Sg, bX5 az cy M]).Perm ((zFl [bX4 ah an am af ai aj al ag cy S_1, bX3 an cy Sn_1, bX3 am cy Sm, bX0 af cy Sf, bX3 ai cy Si, bX0 aj cy Sj, bX2 al cy Sl, bX1 ag cy Sg]) ++ (bX5 az cy M)) := zsp (n := 9) rfl [8] [0, 1, 2, 3, 4, 5, 6, 7] (by decide)
  have hPc : va_P D zCl (bX5 az cy M) H := zP_r (zP_perm hP hsp)
  have hDc : va_D (fun q : Nat => s.heap.size ≤ q) (bX5 az cy M) := zD_r (zD_perm hD hsp)
  refine zc_p (wd' := fun u => (zFl [bX4 ah an am af ai aj al ag cy S_1, bX3 an cy Sn_1, bX3 am cy Sm, bX0 af cy Sf, bX3 ai cy Si, bX0 aj cy Sj, bX2 al cy Sl, bX1 ag cy Sg, bX5 az cy (u)])) (va_runV (As := [.int (xs (nI i + (1 : Int32)).toNatClampNeg), .int (xs (nI i + (2 : Int32)).toNatClampNeg)]) (rest := [.int r1]) ⟨hx, hb, hml, hown, htB⟩ (c_X5_set l D cy az H.size (xs (nI i + (1 : Int32)).toNatClampNeg) (xs (nI i + (2 : Int32)).toNatClampNeg) M (Q := fun r' M' => r' = r1 ∧ Inv S_1 Sn_1 Sf Si Sj Sl M') h) (cwV 2 htB (zgV zm_536 zm_537 zm_538 zm_263 zm_539) rfl rfl rfl hd_X5_set ⟨Nat.le_of_ble_eq_true rfl, Nat.le_of_ble_eq_true rfl⟩) ⟨zMC_blind, va_recv hK hPc (ci := 5) (q0 := 0) rfl rfl, zMC_pre hPc hK hN hDc hS hA hC⟩ rfl rfl hl.1 rfl (lv_room (Nat.le_of_ble_eq_true rfl)) dL_law_290 ⟨Nat.le_of_ble_eq_true rfl, Nat.le_of_ble_eq_true rfl⟩) hS hA hP hD hsp (fun u => zsp (n := 9) rfl [8] [0, 1, 2, 3, 4, 5, 6, 7] (by decide)) (fun u => rfl) (fun r2 u H locs h hP hD hS => ?_)
  obtain ⟨M_2, eu⟩ : ∃ z, z = u := ⟨_, rfl⟩
  subst eu
  replace hP : va_P D zCl (zFl [bX4 ah an am af ai aj al ag cy S_1, bX3 an cy Sn_1, bX3 am cy Sm, bX0 af cy Sf, bX3 ai cy Si, bX0 aj cy Sj, bX2 al cy Sl, bX1 ag cy Sg, bX5 az cy M_2]) H := hP
  replace hD : va_D (fun q : Nat => s.heap.size ≤ q) (zFl [bX4 ah an am af ai aj al ag cy S_1, bX3 an cy Sn_1, bX3 am cy Sm, bX0 af cy Sf, bX3 ai cy Si, bX0 aj cy Sj, bX2 al cy Sl, bX1 ag cy Sg, bX5 az cy M_2]) := hD
  refine lv_icmp_eq (tgt := 1017) hx hb dL_law_293 (by decide) (fun _ => ?_) (fun cn => absurd h.1.symm cn)
  exact cont S_1 Sn_1 Sm Sf Si Sj Sl Sg M_2 H locs ls hP hD hS h.2 hl
set_option maxHeartbeats 4000000 in
set_option maxRecDepth 100000 in
theorem lc_4 (C : zLC p l e s m below meth c D cy b L xs ah an am af ai aj al ag az i) (hi : i + 5 ≤ L) (hL : L ≤ 2560) (cont : zLs1 p l e s m below meth c D cy b L xs ah an am af ai aj al ag az i 1017) : zLs1 p l e s m below meth c D cy b L xs ah an am af ai aj al ag az i 298 := by
  obtain ⟨⟨hx, hb, hr, hml, hown0, hts, hX, hbl, hlocks, hgv⟩, hK, hN, hC⟩ := C
  intro S Sn Sm Sf Si Sj Sl Sg M H locs ls hP hD hS hI hl
  have hown : s.vm.findClass RL = some m.cls := hown0
  have htB : ∀ w ∈ zB, w.before #[Value.ref b] s = true := fun w h => hts w (List.mem_filter.mp h).1
  have hA : ∀ q : Nat, s.heap.size ≤ q → (fun q : Nat => s.heap.size ≤ q) q := fun _ h => h
  have hbA : ¬ (fun q : Nat => s.heap.size ≤ q) b := Nat.not_le.mpr hbl
  have hin1 : vp_in (nI i + (1 : Int32)) L := by rw [show nI i + (1 : Int32) = nI (i + 1) from nI_add i 1]; exact vp_in_nI (by omega) (by omega)
  have hin2 : vp_in (nI i + (2 : Int32)) L := by rw [show nI i + (2 : Int32) = nI (i + 2) from nI_add i 2]; exact vp_in_nI (by omega) (by omega)
  have hin3 : vp_in (nI i + (3 : Int32)) L := by rw [show nI i + (3 : Int32) = nI (i + 3) from nI_add i 3]; exact vp_in_nI (by omega) (by omega)
  have hin4 : vp_in (nI i + (4 : Int32)) L := by rw [show nI i + (4 : Int32) = nI (i + 4) from nI_add i 4]; exact vp_in_nI (by omega) (by omega)
  refine lv_aload_n hx hb dL_law_298 rfl (lv_at hl 1 rfl) ?_
  refine lv_aload_n hx hb dL_law_299 rfl (lv_at hl 0 rfl) ?_
  refine lv_iload_n hx hb dL_law_300 rfl (lv_at hl 3 rfl) ?_
  refine lv_iconst (v := (1 : Int32)) hx hb dL_law_301 (by decide) ?_
  refine lv_iadd hx hb dL_law_302 ?_
  refine va_sld hx hb hX hbl hbA hS (hin1) dL_law_303 ?_
  have hsp : (zFl [bX4 ah an am af ai aj al ag cy S, bX3 an cy Sn, bX3 am cy Sm, bX0 af cy Sf, bX3 ai cy Si, bX0 aj cy Sj, bX2 al cy Sl, bX1 ag cy Sg, bX5 az cy M]).Perm ((zFl [bX3 am cy Sm, bX0 af cy Sf, bX3 ai cy Si, bX0 aj cy Sj, bX2 al cy Sl, bX1 ag cy Sg, bX5 az cy M]) ++ ((bX4 ah an am af ai aj al ag cy S) ++ ((bX3 an cy Sn)))) := zsp (n := 9) rfl [0, 1] [2, 3, 4, 5, 6, 7, 8] (by decide)
  have hPc : va_P D zCl ((bX4 ah an am af ai aj al ag cy S) ++ ((bX3 an cy Sn))) H := zP_r (zP_perm hP hsp)
  have hDc : va_D (fun q : Nat => s.heap.size ≤ q) ((bX4 ah an am af ai aj al ag cy S) ++ ((bX3 an cy Sn))) := zD_r (zD_perm hD hsp)
  refine zc_p (wd' := fun u => (zFl [bX4 ah an am af ai aj al ag cy (u.1), bX3 an cy (u.2), bX3 am cy Sm, bX0 af cy Sf, bX3 ai cy Si, bX0 aj cy Sj, bX2 al cy Sl, bX1 ag cy Sg, bX5 az cy M])) (va_runV (As := [.int (xs (nI i + (1 : Int32)).toNatClampNeg)]) (rest := []) ⟨hx, hb, hml, hown, htB⟩ (c_X4_custom l D cy ah an am af ai aj al ag H.size (xs (nI i + (1 : Int32)).toNatClampNeg) S Sn (ok_custom hI)) (cwV 1 htB (zgV zm_540 zm_541 zm_542 zm_4 zm_543) rfl rfl rfl hd_X4_custom ⟨Nat.le_of_ble_eq_true rfl, Nat.le_of_ble_eq_true rfl⟩) ⟨zM_blind, va_recv hK hPc (ci := 4) (q0 := 0) rfl rfl, zM_pre hPc hK hN hDc⟩ rfl rfl hl.1 rfl (lv_room (Nat.le_of_ble_eq_true rfl)) dL_law_304 ⟨Nat.le_of_ble_eq_true rfl, Nat.le_of_ble_eq_true rfl⟩) hS hA hP hD hsp (fun u => zsp (n := 9) rfl [0, 1] [2, 3, 4, 5, 6, 7, 8] (by decide)) (fun u => rfl) (fun r1 u H locs h hP hD hS => ?_)
  obtain ⟨S_1, Sn_1⟩ := u
  replace hP : va_P D zCl (zFl [bX4 ah an am af ai aj al ag cy S_1, bX3 an cy Sn_1, bX3 am cy Sm, bX0 af cy Sf, bX3 ai cy Si, bX0 aj cy Sj, bX2 al cy Sl, bX1 ag cy Sg, bX5 az cy M]) H := hP
  replace hD : va_D (fun q : Nat => s.heap.size ≤ q) (zFl [bX4 ah an am af ai aj al ag cy S_1, bX3 an cy Sn_1, bX3 am cy Sm, bX0 af cy Sf, bX3 ai cy Si, bX0 aj cy Sj, bX2 al cy Sl, bX1 ag cy Sg, bX5 az cy M]) := hD
  refine lv_aload_n hx hb dL_law_307 rfl (lv_at hl 2 rfl) ?_
  refine lv_aload_n hx hb dL_law_308 rfl (lv_at hl 0 rfl) ?_
  refine lv_iload_n hx hb dL_law_309 rfl (lv_at hl 3 rfl) ?_
  refine lv_iconst (v := (1 : Int32)) hx hb dL_law_310 (by decide) ?_
  refine lv_iadd hx hb dL_law_311 ?_
  refine va_sld hx hb hX hbl hbA hS (hin1) dL_law_312 ?_
  have hsp : (zFl [bX4 ah an am af ai aj al ag cy S_1, bX3 an cy Sn_1, bX3 am cy Sm, bX0 af cy Sf, bX3 ai cy Si, bX0 aj cy Sj, bX2 al cy Sl, bX1 ag cy Sg, bX5 az cy M]).Perm ((zFl [bX4 ah an am af ai aj al ag cy S_1, bX3 an cy Sn_1, bX3 am cy Sm, bX0 af cy Sf, bX3 ai cy Si, bX0 aj cy Sj, bX2 al cy Sl, bX1 ag cy Sg]) ++ (bX5 az cy M)) := zsp (n := 9) rfl [8] [0, 1, 2, 3, 4, 5, 6, 7] (by decide)
  have hPc : va_P D zCl (bX5 az cy M) H := zP_r (zP_perm hP hsp)
  have hDc : va_D (fun q : Nat => s.heap.size ≤ q) (bX5 az cy M) := zD_r (zD_perm hD hsp)
  refine zc_p (wd' := fun u => (zFl [bX4 ah an am af ai aj al ag cy S_1, bX3 an cy Sn_1, bX3 am cy Sm, bX0 af cy Sf, bX3 ai cy Si, bX0 aj cy Sj, bX2 al cy Sl, bX1 ag cy Sg, bX5 az cy (u)])) (va_runV (As := [.int (xs (nI i + (1 : Int32)).toNatClampNeg)]) (rest := [.int r1]) ⟨hx, hb, hml, hown, htB⟩ (c_X5_custom l D cy az H.size (xs (nI i + (1 : Int32)).toNatClampNeg) M (Q := fun r' M' => r' = r1 ∧ Inv S_1 Sn_1 Sf Si Sj Sl M') h) (cwV 1 htB (zgV zm_544 zm_545 zm_546 zm_263 zm_547) rfl rfl rfl hd_X5_custom ⟨Nat.le_of_ble_eq_true rfl, Nat.le_of_ble_eq_true rfl⟩) ⟨zM_blind, va_recv hK hPc (ci := 5) (q0 := 0) rfl rfl, zM_pre hPc hK hN hDc⟩ rfl rfl hl.1 rfl (lv_room (Nat.le_of_ble_eq_true rfl)) dL_law_313 ⟨Nat.le_of_ble_eq_true rfl, Nat.le_of_ble_eq_true rfl⟩) hS hA hP hD hsp (fun u => zsp (n := 9) rfl [8] [0, 1, 2, 3, 4, 5, 6, 7] (by decide)) (fun u => rfl) (fun r2 u H locs h hP hD hS => ?_)
  obtain ⟨M_2, eu⟩ : ∃ z, z = u := ⟨_, rfl⟩
  subst eu
  replace hP : va_P D zCl (zFl [bX4 ah an am af ai aj al ag cy S_1, bX3 an cy Sn_1, bX3 am cy Sm, bX0 af cy Sf, bX3 ai cy Si, bX0 aj cy Sj, bX2 al cy Sl, bX1 ag cy Sg, bX5 az cy M_2]) H := hP
  replace hD : va_D (fun q : Nat => s.heap.size ≤ q) (zFl [bX4 ah an am af ai aj al ag cy S_1, bX3 an cy Sn_1, bX3 am cy Sm, bX0 af cy Sf, bX3 ai cy Si, bX0 aj cy Sj, bX2 al cy Sl, bX1 ag cy Sg, bX5 az cy M_2]) := hD
  refine lv_icmp_eq (tgt := 1017) hx hb dL_law_316 (by decide) (fun _ => ?_) (fun cn => absurd h.1.symm cn)
  exact cont S_1 Sn_1 Sm Sf Si Sj Sl Sg M_2 H locs ls hP hD hS h.2 hl
set_option maxHeartbeats 4000000 in
set_option maxRecDepth 100000 in
theorem lc_5 (C : zLC p l e s m below meth c D cy b L xs ah an am af ai aj al ag az i) (hi : i + 5 ≤ L) (hL : L ≤ 2560) (cont : zLs1 p l e s m below meth c D cy b L xs ah an am af ai aj al ag az i 1017) : zLs1 p l e s m below meth c D cy b L xs ah an am af ai aj al ag az i 321 := by
  obtain ⟨⟨hx, hb, hr, hml, hown0, hts, hX, hbl, hlocks, hgv⟩, hK, hN, hC⟩ := C
  intro S Sn Sm Sf Si Sj Sl Sg M H locs ls hP hD hS hI hl
  have hown : s.vm.findClass RL = some m.cls := hown0
  have htB : ∀ w ∈ zB, w.before #[Value.ref b] s = true := fun w h => hts w (List.mem_filter.mp h).1
  have hA : ∀ q : Nat, s.heap.size ≤ q → (fun q : Nat => s.heap.size ≤ q) q := fun _ h => h
  have hbA : ¬ (fun q : Nat => s.heap.size ≤ q) b := Nat.not_le.mpr hbl
  have hin1 : vp_in (nI i + (1 : Int32)) L := by rw [show nI i + (1 : Int32) = nI (i + 1) from nI_add i 1]; exact vp_in_nI (by omega) (by omega)
  have hin2 : vp_in (nI i + (2 : Int32)) L := by rw [show nI i + (2 : Int32) = nI (i + 2) from nI_add i 2]; exact vp_in_nI (by omega) (by omega)
  have hin3 : vp_in (nI i + (3 : Int32)) L := by rw [show nI i + (3 : Int32) = nI (i + 3) from nI_add i 3]; exact vp_in_nI (by omega) (by omega)
  have hin4 : vp_in (nI i + (4 : Int32)) L := by rw [show nI i + (4 : Int32) = nI (i + 4) from nI_add i 4]; exact vp_in_nI (by omega) (by omega)
  refine lv_aload_n hx hb dL_law_321 rfl (lv_at hl 1 rfl) ?_
  refine lv_aload_n hx hb dL_law_322 rfl (lv_at hl 0 rfl) ?_
  refine lv_iload_n hx hb dL_law_323 rfl (lv_at hl 3 rfl) ?_
  refine lv_iconst (v := (1 : Int32)) hx hb dL_law_324 (by decide) ?_
  refine lv_iadd hx hb dL_law_325 ?_
  refine va_sld hx hb hX hbl hbA hS (hin1) dL_law_326 ?_
  refine lv_aload_n hx hb dL_law_327 rfl (lv_at hl 0 rfl) ?_
  refine lv_iload_n hx hb dL_law_328 rfl (lv_at hl 3 rfl) ?_
  refine lv_iconst (v := (2 : Int32)) hx hb dL_law_329 (by decide) ?_
  refine lv_iadd hx hb dL_law_330 ?_
  refine va_sld hx hb hX hbl hbA hS (hin2) dL_law_331 ?_
  refine lv_aload_n hx hb dL_law_332 rfl (lv_at hl 0 rfl) ?_
  refine lv_iload_n hx hb dL_law_333 rfl (lv_at hl 3 rfl) ?_
  refine lv_iconst (v := (3 : Int32)) hx hb dL_law_334 (by decide) ?_
  refine lv_iadd hx hb dL_law_335 ?_
  refine va_sld hx hb hX hbl hbA hS (hin3) dL_law_336 ?_
  have hsp : (zFl [bX4 ah an am af ai aj al ag cy S, bX3 an cy Sn, bX3 am cy Sm, bX0 af cy Sf, bX3 ai cy Si, bX0 aj cy Sj, bX2 al cy Sl, bX1 ag cy Sg, bX5 az cy M]).Perm ((zFl [bX3 am cy Sm, bX0 af cy Sf, bX3 ai cy Si, bX0 aj cy Sj, bX2 al cy Sl, bX1 ag cy Sg, bX5 az cy M]) ++ ((bX4 ah an am af ai aj al ag cy S) ++ ((bX3 an cy Sn)))) := zsp (n := 9) rfl [0, 1] [2, 3, 4, 5, 6, 7, 8] (by decide)
  have hPc : va_P D zCl ((bX4 ah an am af ai aj al ag cy S) ++ ((bX3 an cy Sn))) H := zP_r (zP_perm hP hsp)
  have hDc : va_D (fun q : Nat => s.heap.size ≤ q) ((bX4 ah an am af ai aj al ag cy S) ++ ((bX3 an cy Sn))) := zD_r (zD_perm hD hsp)
  refine zc_p (wd' := fun u => (zFl [bX4 ah an am af ai aj al ag cy (u), bX3 an cy Sn, bX3 am cy Sm, bX0 af cy Sf, bX3 ai cy Si, bX0 aj cy Sj, bX2 al cy Sl, bX1 ag cy Sg, bX5 az cy M])) (va_runV (As := [.int (xs (nI i + (1 : Int32)).toNatClampNeg), .int (xs (nI i + (2 : Int32)).toNatClampNeg), .int (xs (nI i + (3 : Int32)).toNatClampNeg)]) (rest := []) ⟨hx, hb, hml, hown, htB⟩ (c_X4_far l D cy ah an am af ai aj al ag H.size Sn (xs (nI i + (1 : Int32)).toNatClampNeg) (xs (nI i + (2 : Int32)).toNatClampNeg) (xs (nI i + (3 : Int32)).toNatClampNeg) S (ok_far hI)) (cwV 3 htB (zgV zm_548 zm_549 zm_550 zm_4 zm_551) rfl rfl rfl hd_X4_far ⟨Nat.le_of_ble_eq_true rfl, Nat.le_of_ble_eq_true rfl⟩) ⟨zM_blind, va_recv hK hPc (ci := 4) (q0 := 0) rfl rfl, zM_pre hPc hK hN hDc⟩ rfl rfl hl.1 rfl (lv_room (Nat.le_of_ble_eq_true rfl)) dL_law_337 ⟨Nat.le_of_ble_eq_true rfl, Nat.le_of_ble_eq_true rfl⟩) hS hA hP hD hsp (fun u => zsp (n := 9) rfl [0, 1] [2, 3, 4, 5, 6, 7, 8] (by decide)) (fun u => rfl) (fun r1 u H locs h hP hD hS => ?_)
  obtain ⟨S_1, eu⟩ : ∃ z, z = u := ⟨_, rfl⟩
  subst eu
  replace hP : va_P D zCl (zFl [bX4 ah an am af ai aj al ag cy S_1, bX3 an cy Sn, bX3 am cy Sm, bX0 af cy Sf, bX3 ai cy Si, bX0 aj cy Sj, bX2 al cy Sl, bX1 ag cy Sg, bX5 az cy M]) H := hP
  replace hD : va_D (fun q : Nat => s.heap.size ≤ q) (zFl [bX4 ah an am af ai aj al ag cy S_1, bX3 an cy Sn, bX3 am cy Sm, bX0 af cy Sf, bX3 ai cy Si, bX0 aj cy Sj, bX2 al cy Sl, bX1 ag cy Sg, bX5 az cy M]) := hD
  refine lv_aload_n hx hb dL_law_340 rfl (lv_at hl 2 rfl) ?_
  refine lv_aload_n hx hb dL_law_341 rfl (lv_at hl 0 rfl) ?_
  refine lv_iload_n hx hb dL_law_342 rfl (lv_at hl 3 rfl) ?_
  refine lv_iconst (v := (1 : Int32)) hx hb dL_law_343 (by decide) ?_
  refine lv_iadd hx hb dL_law_344 ?_
  refine va_sld hx hb hX hbl hbA hS (hin1) dL_law_345 ?_
  refine lv_aload_n hx hb dL_law_346 rfl (lv_at hl 0 rfl) ?_
  refine lv_iload_n hx hb dL_law_347 rfl (lv_at hl 3 rfl) ?_
  refine lv_iconst (v := (2 : Int32)) hx hb dL_law_348 (by decide) ?_
  refine lv_iadd hx hb dL_law_349 ?_
  refine va_sld hx hb hX hbl hbA hS (hin2) dL_law_350 ?_
  refine lv_aload_n hx hb dL_law_351 rfl (lv_at hl 0 rfl) ?_
  refine lv_iload_n hx hb dL_law_352 rfl (lv_at hl 3 rfl) ?_
  refine lv_iconst (v := (3 : Int32)) hx hb dL_law_353 (by decide) ?_
  refine lv_iadd hx hb dL_law_354 ?_
  refine va_sld hx hb hX hbl hbA hS (hin3) dL_law_355 ?_
  have hsp : (zFl [bX4 ah an am af ai aj al ag cy S_1, bX3 an cy Sn, bX3 am cy Sm, bX0 af cy Sf, bX3 ai cy Si, bX0 aj cy Sj, bX2 al cy Sl, bX1 ag cy Sg, bX5 az cy M]).Perm ((zFl [bX4 ah an am af ai aj al ag cy S_1, bX3 an cy Sn, bX3 am cy Sm, bX0 af cy Sf, bX3 ai cy Si, bX0 aj cy Sj, bX2 al cy Sl, bX1 ag cy Sg]) ++ (bX5 az cy M)) := zsp (n := 9) rfl [8] [0, 1, 2, 3, 4, 5, 6, 7] (by decide)
  have hPc : va_P D zCl (bX5 az cy M) H := zP_r (zP_perm hP hsp)
  have hDc : va_D (fun q : Nat => s.heap.size ≤ q) (bX5 az cy M) := zD_r (zD_perm hD hsp)
  refine zc_p (wd' := fun u => (zFl [bX4 ah an am af ai aj al ag cy S_1, bX3 an cy Sn, bX3 am cy Sm, bX0 af cy Sf, bX3 ai cy Si, bX0 aj cy Sj, bX2 al cy Sl, bX1 ag cy Sg, bX5 az cy (u)])) (va_runV (As := [.int (xs (nI i + (1 : Int32)).toNatClampNeg), .int (xs (nI i + (2 : Int32)).toNatClampNeg), .int (xs (nI i + (3 : Int32)).toNatClampNeg)]) (rest := [.int r1]) ⟨hx, hb, hml, hown, htB⟩ (c_X5_far l D cy az H.size (xs (nI i + (1 : Int32)).toNatClampNeg) (xs (nI i + (2 : Int32)).toNatClampNeg) (xs (nI i + (3 : Int32)).toNatClampNeg) M (Q := fun r' M' => r' = r1 ∧ Inv S_1 Sn Sf Si Sj Sl M') h) (cwV 3 htB (zgV zm_552 zm_553 zm_554 zm_263 zm_555) rfl rfl rfl hd_X5_far ⟨Nat.le_of_ble_eq_true rfl, Nat.le_of_ble_eq_true rfl⟩) ⟨zM_blind, va_recv hK hPc (ci := 5) (q0 := 0) rfl rfl, zM_pre hPc hK hN hDc⟩ rfl rfl hl.1 rfl (lv_room (Nat.le_of_ble_eq_true rfl)) dL_law_356 ⟨Nat.le_of_ble_eq_true rfl, Nat.le_of_ble_eq_true rfl⟩) hS hA hP hD hsp (fun u => zsp (n := 9) rfl [8] [0, 1, 2, 3, 4, 5, 6, 7] (by decide)) (fun u => rfl) (fun r2 u H locs h hP hD hS => ?_)
  obtain ⟨M_2, eu⟩ : ∃ z, z = u := ⟨_, rfl⟩
  subst eu
  replace hP : va_P D zCl (zFl [bX4 ah an am af ai aj al ag cy S_1, bX3 an cy Sn, bX3 am cy Sm, bX0 af cy Sf, bX3 ai cy Si, bX0 aj cy Sj, bX2 al cy Sl, bX1 ag cy Sg, bX5 az cy M_2]) H := hP
  replace hD : va_D (fun q : Nat => s.heap.size ≤ q) (zFl [bX4 ah an am af ai aj al ag cy S_1, bX3 an cy Sn, bX3 am cy Sm, bX0 af cy Sf, bX3 ai cy Si, bX0 aj cy Sj, bX2 al cy Sl, bX1 ag cy Sg, bX5 az cy M_2]) := hD
  refine lv_icmp_eq (tgt := 1017) hx hb dL_law_359 (by decide) (fun _ => ?_) (fun cn => absurd h.1.symm cn)
  exact cont S_1 Sn Sm Sf Si Sj Sl Sg M_2 H locs ls hP hD hS h.2 hl
set_option maxHeartbeats 4000000 in
set_option maxRecDepth 100000 in
theorem lc_6 (C : zLC p l e s m below meth c D cy b L xs ah an am af ai aj al ag az i) (hi : i + 5 ≤ L) (hL : L ≤ 2560) (cont : zLs1 p l e s m below meth c D cy b L xs ah an am af ai aj al ag az i 1017) : zLs1 p l e s m below meth c D cy b L xs ah an am af ai aj al ag az i 364 := by
  obtain ⟨⟨hx, hb, hr, hml, hown0, hts, hX, hbl, hlocks, hgv⟩, hK, hN, hC⟩ := C
  intro S Sn Sm Sf Si Sj Sl Sg M H locs ls hP hD hS hI hl
  have hown : s.vm.findClass RL = some m.cls := hown0
  have htB : ∀ w ∈ zB, w.before #[Value.ref b] s = true := fun w h => hts w (List.mem_filter.mp h).1
  have hA : ∀ q : Nat, s.heap.size ≤ q → (fun q : Nat => s.heap.size ≤ q) q := fun _ h => h
  have hbA : ¬ (fun q : Nat => s.heap.size ≤ q) b := Nat.not_le.mpr hbl
  have hin1 : vp_in (nI i + (1 : Int32)) L := by rw [show nI i + (1 : Int32) = nI (i + 1) from nI_add i 1]; exact vp_in_nI (by omega) (by omega)
  have hin2 : vp_in (nI i + (2 : Int32)) L := by rw [show nI i + (2 : Int32) = nI (i + 2) from nI_add i 2]; exact vp_in_nI (by omega) (by omega)
  have hin3 : vp_in (nI i + (3 : Int32)) L := by rw [show nI i + (3 : Int32) = nI (i + 3) from nI_add i 3]; exact vp_in_nI (by omega) (by omega)
  have hin4 : vp_in (nI i + (4 : Int32)) L := by rw [show nI i + (4 : Int32) = nI (i + 4) from nI_add i 4]; exact vp_in_nI (by omega) (by omega)
  refine lv_aload_n hx hb dL_law_364 rfl (lv_at hl 1 rfl) ?_
  refine lv_aload_n hx hb dL_law_365 rfl (lv_at hl 0 rfl) ?_
  refine lv_iload_n hx hb dL_law_366 rfl (lv_at hl 3 rfl) ?_
  refine lv_iconst (v := (1 : Int32)) hx hb dL_law_367 (by decide) ?_
  refine lv_iadd hx hb dL_law_368 ?_
  refine va_sld hx hb hX hbl hbA hS (hin1) dL_law_369 ?_
  have hsp : (zFl [bX4 ah an am af ai aj al ag cy S, bX3 an cy Sn, bX3 am cy Sm, bX0 af cy Sf, bX3 ai cy Si, bX0 aj cy Sj, bX2 al cy Sl, bX1 ag cy Sg, bX5 az cy M]).Perm ((zFl [bX3 am cy Sm, bX0 af cy Sf, bX3 ai cy Si, bX0 aj cy Sj, bX2 al cy Sl, bX1 ag cy Sg, bX5 az cy M]) ++ ((bX4 ah an am af ai aj al ag cy S) ++ ((bX3 an cy Sn)))) := zsp (n := 9) rfl [0, 1] [2, 3, 4, 5, 6, 7, 8] (by decide)
  have hPc : va_P D zCl ((bX4 ah an am af ai aj al ag cy S) ++ ((bX3 an cy Sn))) H := zP_r (zP_perm hP hsp)
  have hDc : va_D (fun q : Nat => s.heap.size ≤ q) ((bX4 ah an am af ai aj al ag cy S) ++ ((bX3 an cy Sn))) := zD_r (zD_perm hD hsp)
  refine zc_p (wd' := fun u => (zFl [bX4 ah an am af ai aj al ag cy (u), bX3 an cy Sn, bX3 am cy Sm, bX0 af cy Sf, bX3 ai cy Si, bX0 aj cy Sj, bX2 al cy Sl, bX1 ag cy Sg, bX5 az cy M])) (va_runV (As := [.int (xs (nI i + (1 : Int32)).toNatClampNeg)]) (rest := []) ⟨hx, hb, hml, hown, htB⟩ (c_X4_there l D cy ah an am af ai aj al ag H.size Sn (xs (nI i + (1 : Int32)).toNatClampNeg) S (ok_there hI)) (cwV 1 htB (zgV zm_556 zm_557 zm_558 zm_4 zm_559) rfl rfl rfl hd_X4_there ⟨Nat.le_of_ble_eq_true rfl, Nat.le_of_ble_eq_true rfl⟩) ⟨zM_blind, va_recv hK hPc (ci := 4) (q0 := 0) rfl rfl, zM_pre hPc hK hN hDc⟩ rfl rfl hl.1 rfl (lv_room (Nat.le_of_ble_eq_true rfl)) dL_law_370 ⟨Nat.le_of_ble_eq_true rfl, Nat.le_of_ble_eq_true rfl⟩) hS hA hP hD hsp (fun u => zsp (n := 9) rfl [0, 1] [2, 3, 4, 5, 6, 7, 8] (by decide)) (fun u => rfl) (fun r1 u H locs h hP hD hS => ?_)
  obtain ⟨S_1, eu⟩ : ∃ z, z = u := ⟨_, rfl⟩
  subst eu
  replace hP : va_P D zCl (zFl [bX4 ah an am af ai aj al ag cy S_1, bX3 an cy Sn, bX3 am cy Sm, bX0 af cy Sf, bX3 ai cy Si, bX0 aj cy Sj, bX2 al cy Sl, bX1 ag cy Sg, bX5 az cy M]) H := hP
  replace hD : va_D (fun q : Nat => s.heap.size ≤ q) (zFl [bX4 ah an am af ai aj al ag cy S_1, bX3 an cy Sn, bX3 am cy Sm, bX0 af cy Sf, bX3 ai cy Si, bX0 aj cy Sj, bX2 al cy Sl, bX1 ag cy Sg, bX5 az cy M]) := hD
  refine lv_aload_n hx hb dL_law_373 rfl (lv_at hl 2 rfl) ?_
  refine lv_aload_n hx hb dL_law_374 rfl (lv_at hl 0 rfl) ?_
  refine lv_iload_n hx hb dL_law_375 rfl (lv_at hl 3 rfl) ?_
  refine lv_iconst (v := (1 : Int32)) hx hb dL_law_376 (by decide) ?_
  refine lv_iadd hx hb dL_law_377 ?_
  refine va_sld hx hb hX hbl hbA hS (hin1) dL_law_378 ?_
  have hsp : (zFl [bX4 ah an am af ai aj al ag cy S_1, bX3 an cy Sn, bX3 am cy Sm, bX0 af cy Sf, bX3 ai cy Si, bX0 aj cy Sj, bX2 al cy Sl, bX1 ag cy Sg, bX5 az cy M]).Perm ((zFl [bX4 ah an am af ai aj al ag cy S_1, bX3 an cy Sn, bX3 am cy Sm, bX0 af cy Sf, bX3 ai cy Si, bX0 aj cy Sj, bX2 al cy Sl, bX1 ag cy Sg]) ++ (bX5 az cy M)) := zsp (n := 9) rfl [8] [0, 1, 2, 3, 4, 5, 6, 7] (by decide)
  have hPc : va_P D zCl (bX5 az cy M) H := zP_r (zP_perm hP hsp)
  have hDc : va_D (fun q : Nat => s.heap.size ≤ q) (bX5 az cy M) := zD_r (zD_perm hD hsp)
  refine zc_p (wd' := fun u => (zFl [bX4 ah an am af ai aj al ag cy S_1, bX3 an cy Sn, bX3 am cy Sm, bX0 af cy Sf, bX3 ai cy Si, bX0 aj cy Sj, bX2 al cy Sl, bX1 ag cy Sg, bX5 az cy (u)])) (va_runV (As := [.int (xs (nI i + (1 : Int32)).toNatClampNeg)]) (rest := [.int r1]) ⟨hx, hb, hml, hown, htB⟩ (c_X5_there l D cy az H.size (xs (nI i + (1 : Int32)).toNatClampNeg) M (Q := fun r' M' => r' = r1 ∧ Inv S_1 Sn Sf Si Sj Sl M') h) (cwV 1 htB (zgV zm_560 zm_561 zm_562 zm_263 zm_563) rfl rfl rfl hd_X5_there ⟨Nat.le_of_ble_eq_true rfl, Nat.le_of_ble_eq_true rfl⟩) ⟨zM_blind, va_recv hK hPc (ci := 5) (q0 := 0) rfl rfl, zM_pre hPc hK hN hDc⟩ rfl rfl hl.1 rfl (lv_room (Nat.le_of_ble_eq_true rfl)) dL_law_379 ⟨Nat.le_of_ble_eq_true rfl, Nat.le_of_ble_eq_true rfl⟩) hS hA hP hD hsp (fun u => zsp (n := 9) rfl [8] [0, 1, 2, 3, 4, 5, 6, 7] (by decide)) (fun u => rfl) (fun r2 u H locs h hP hD hS => ?_)
  obtain ⟨M_2, eu⟩ : ∃ z, z = u := ⟨_, rfl⟩
  subst eu
  replace hP : va_P D zCl (zFl [bX4 ah an am af ai aj al ag cy S_1, bX3 an cy Sn, bX3 am cy Sm, bX0 af cy Sf, bX3 ai cy Si, bX0 aj cy Sj, bX2 al cy Sl, bX1 ag cy Sg, bX5 az cy M_2]) H := hP
  replace hD : va_D (fun q : Nat => s.heap.size ≤ q) (zFl [bX4 ah an am af ai aj al ag cy S_1, bX3 an cy Sn, bX3 am cy Sm, bX0 af cy Sf, bX3 ai cy Si, bX0 aj cy Sj, bX2 al cy Sl, bX1 ag cy Sg, bX5 az cy M_2]) := hD
  refine lv_icmp_eq (tgt := 1017) hx hb dL_law_382 (by decide) (fun _ => ?_) (fun cn => absurd h.1.symm cn)
  exact cont S_1 Sn Sm Sf Si Sj Sl Sg M_2 H locs ls hP hD hS h.2 hl
set_option maxHeartbeats 4000000 in
set_option maxRecDepth 100000 in
theorem lc_7 (C : zLC p l e s m below meth c D cy b L xs ah an am af ai aj al ag az i) (hi : i + 5 ≤ L) (hL : L ≤ 2560) (cont : zLs1 p l e s m below meth c D cy b L xs ah an am af ai aj al ag az i 1017) : zLs1 p l e s m below meth c D cy b L xs ah an am af ai aj al ag az i 387 := by
  obtain ⟨⟨hx, hb, hr, hml, hown0, hts, hX, hbl, hlocks, hgv⟩, hK, hN, hC⟩ := C
  intro S Sn Sm Sf Si Sj Sl Sg M H locs ls hP hD hS hI hl
  have hown : s.vm.findClass RL = some m.cls := hown0
  have htB : ∀ w ∈ zB, w.before #[Value.ref b] s = true := fun w h => hts w (List.mem_filter.mp h).1
  have hA : ∀ q : Nat, s.heap.size ≤ q → (fun q : Nat => s.heap.size ≤ q) q := fun _ h => h
  have hbA : ¬ (fun q : Nat => s.heap.size ≤ q) b := Nat.not_le.mpr hbl
  have hin1 : vp_in (nI i + (1 : Int32)) L := by rw [show nI i + (1 : Int32) = nI (i + 1) from nI_add i 1]; exact vp_in_nI (by omega) (by omega)
  have hin2 : vp_in (nI i + (2 : Int32)) L := by rw [show nI i + (2 : Int32) = nI (i + 2) from nI_add i 2]; exact vp_in_nI (by omega) (by omega)
  have hin3 : vp_in (nI i + (3 : Int32)) L := by rw [show nI i + (3 : Int32) = nI (i + 3) from nI_add i 3]; exact vp_in_nI (by omega) (by omega)
  have hin4 : vp_in (nI i + (4 : Int32)) L := by rw [show nI i + (4 : Int32) = nI (i + 4) from nI_add i 4]; exact vp_in_nI (by omega) (by omega)
  refine lv_aload_n hx hb dL_law_387 rfl (lv_at hl 1 rfl) ?_
  refine lv_aload_n hx hb dL_law_388 rfl (lv_at hl 0 rfl) ?_
  refine lv_iload_n hx hb dL_law_389 rfl (lv_at hl 3 rfl) ?_
  refine lv_iconst (v := (1 : Int32)) hx hb dL_law_390 (by decide) ?_
  refine lv_iadd hx hb dL_law_391 ?_
  refine va_sld hx hb hX hbl hbA hS (hin1) dL_law_392 ?_
  have hsp : (zFl [bX4 ah an am af ai aj al ag cy S, bX3 an cy Sn, bX3 am cy Sm, bX0 af cy Sf, bX3 ai cy Si, bX0 aj cy Sj, bX2 al cy Sl, bX1 ag cy Sg, bX5 az cy M]).Perm ((zFl [bX3 am cy Sm, bX0 af cy Sf, bX3 ai cy Si, bX0 aj cy Sj, bX2 al cy Sl, bX5 az cy M]) ++ ((bX4 ah an am af ai aj al ag cy S) ++ ((bX3 an cy Sn) ++ ((bX1 ag cy Sg))))) := zsp (n := 9) rfl [0, 1, 7] [2, 3, 4, 5, 6, 8] (by decide)
  have hPc : va_P D zCl ((bX4 ah an am af ai aj al ag cy S) ++ ((bX3 an cy Sn) ++ ((bX1 ag cy Sg)))) H := zP_r (zP_perm hP hsp)
  have hDc : va_D (fun q : Nat => s.heap.size ≤ q) ((bX4 ah an am af ai aj al ag cy S) ++ ((bX3 an cy Sn) ++ ((bX1 ag cy Sg)))) := zD_r (zD_perm hD hsp)
  refine zc_p (wd' := fun u => (zFl [bX4 ah an am af ai aj al ag cy (u.1), bX3 an cy Sn, bX3 am cy Sm, bX0 af cy Sf, bX3 ai cy Si, bX0 aj cy Sj, bX2 al cy Sl, bX1 ag cy (u.2), bX5 az cy M])) (va_runV (As := [.int (xs (nI i + (1 : Int32)).toNatClampNeg)]) (rest := []) ⟨hx, hb, hml, hown, htB⟩ (c_X4_order l D cy ah an am af ai aj al ag H.size Sn (xs (nI i + (1 : Int32)).toNatClampNeg) S Sg (ok_order hI)) (cwV 1 htB (zgV zm_564 zm_565 zm_566 zm_4 zm_567) rfl rfl rfl hd_X4_order ⟨Nat.le_of_ble_eq_true rfl, Nat.le_of_ble_eq_true rfl⟩) ⟨zM_blind, va_recv hK hPc (ci := 4) (q0 := 0) rfl rfl, zM_pre hPc hK hN hDc⟩ rfl rfl hl.1 rfl (lv_room (Nat.le_of_ble_eq_true rfl)) dL_law_393 ⟨Nat.le_of_ble_eq_true rfl, Nat.le_of_ble_eq_true rfl⟩) hS hA hP hD hsp (fun u => zsp (n := 9) rfl [0, 1, 7] [2, 3, 4, 5, 6, 8] (by decide)) (fun u => rfl) (fun r1 u H locs h hP hD hS => ?_)
  obtain ⟨S_1, Sg_1⟩ := u
  replace hP : va_P D zCl (zFl [bX4 ah an am af ai aj al ag cy S_1, bX3 an cy Sn, bX3 am cy Sm, bX0 af cy Sf, bX3 ai cy Si, bX0 aj cy Sj, bX2 al cy Sl, bX1 ag cy Sg_1, bX5 az cy M]) H := hP
  replace hD : va_D (fun q : Nat => s.heap.size ≤ q) (zFl [bX4 ah an am af ai aj al ag cy S_1, bX3 an cy Sn, bX3 am cy Sm, bX0 af cy Sf, bX3 ai cy Si, bX0 aj cy Sj, bX2 al cy Sl, bX1 ag cy Sg_1, bX5 az cy M]) := hD
  refine lv_aload_n hx hb dL_law_396 rfl (lv_at hl 2 rfl) ?_
  refine lv_aload_n hx hb dL_law_397 rfl (lv_at hl 0 rfl) ?_
  refine lv_iload_n hx hb dL_law_398 rfl (lv_at hl 3 rfl) ?_
  refine lv_iconst (v := (1 : Int32)) hx hb dL_law_399 (by decide) ?_
  refine lv_iadd hx hb dL_law_400 ?_
  refine va_sld hx hb hX hbl hbA hS (hin1) dL_law_401 ?_
  have hsp : (zFl [bX4 ah an am af ai aj al ag cy S_1, bX3 an cy Sn, bX3 am cy Sm, bX0 af cy Sf, bX3 ai cy Si, bX0 aj cy Sj, bX2 al cy Sl, bX1 ag cy Sg_1, bX5 az cy M]).Perm ((zFl [bX4 ah an am af ai aj al ag cy S_1, bX3 an cy Sn, bX3 am cy Sm, bX0 af cy Sf, bX3 ai cy Si, bX0 aj cy Sj, bX2 al cy Sl, bX1 ag cy Sg_1]) ++ (bX5 az cy M)) := zsp (n := 9) rfl [8] [0, 1, 2, 3, 4, 5, 6, 7] (by decide)
  have hPc : va_P D zCl (bX5 az cy M) H := zP_r (zP_perm hP hsp)
  have hDc : va_D (fun q : Nat => s.heap.size ≤ q) (bX5 az cy M) := zD_r (zD_perm hD hsp)
  refine zc_p (wd' := fun u => (zFl [bX4 ah an am af ai aj al ag cy S_1, bX3 an cy Sn, bX3 am cy Sm, bX0 af cy Sf, bX3 ai cy Si, bX0 aj cy Sj, bX2 al cy Sl, bX1 ag cy Sg_1, bX5 az cy (u)])) (va_runV (As := [.int (xs (nI i + (1 : Int32)).toNatClampNeg)]) (rest := [.int r1]) ⟨hx, hb, hml, hown, htB⟩ (c_X5_order l D cy az H.size (xs (nI i + (1 : Int32)).toNatClampNeg) M (Q := fun r' M' => r' = r1 ∧ Inv S_1 Sn Sf Si Sj Sl M') h) (cwV 1 htB (zgV zm_568 zm_569 zm_570 zm_263 zm_571) rfl rfl rfl hd_X5_order ⟨Nat.le_of_ble_eq_true rfl, Nat.le_of_ble_eq_true rfl⟩) ⟨zM_blind, va_recv hK hPc (ci := 5) (q0 := 0) rfl rfl, zM_pre hPc hK hN hDc⟩ rfl rfl hl.1 rfl (lv_room (Nat.le_of_ble_eq_true rfl)) dL_law_402 ⟨Nat.le_of_ble_eq_true rfl, Nat.le_of_ble_eq_true rfl⟩) hS hA hP hD hsp (fun u => zsp (n := 9) rfl [8] [0, 1, 2, 3, 4, 5, 6, 7] (by decide)) (fun u => rfl) (fun r2 u H locs h hP hD hS => ?_)
  obtain ⟨M_2, eu⟩ : ∃ z, z = u := ⟨_, rfl⟩
  subst eu
  replace hP : va_P D zCl (zFl [bX4 ah an am af ai aj al ag cy S_1, bX3 an cy Sn, bX3 am cy Sm, bX0 af cy Sf, bX3 ai cy Si, bX0 aj cy Sj, bX2 al cy Sl, bX1 ag cy Sg_1, bX5 az cy M_2]) H := hP
  replace hD : va_D (fun q : Nat => s.heap.size ≤ q) (zFl [bX4 ah an am af ai aj al ag cy S_1, bX3 an cy Sn, bX3 am cy Sm, bX0 af cy Sf, bX3 ai cy Si, bX0 aj cy Sj, bX2 al cy Sl, bX1 ag cy Sg_1, bX5 az cy M_2]) := hD
  refine lv_icmp_eq (tgt := 1017) hx hb dL_law_405 (by decide) (fun _ => ?_) (fun cn => absurd h.1.symm cn)
  exact cont S_1 Sn Sm Sf Si Sj Sl Sg_1 M_2 H locs ls hP hD hS h.2 hl
set_option maxHeartbeats 4000000 in
set_option maxRecDepth 100000 in
theorem lc_8 (C : zLC p l e s m below meth c D cy b L xs ah an am af ai aj al ag az i) (hi : i + 5 ≤ L) (hL : L ≤ 2560) (cont : zLs1 p l e s m below meth c D cy b L xs ah an am af ai aj al ag az i 1017) : zLs1 p l e s m below meth c D cy b L xs ah an am af ai aj al ag az i 410 := by
  obtain ⟨⟨hx, hb, hr, hml, hown0, hts, hX, hbl, hlocks, hgv⟩, hK, hN, hC⟩ := C
  intro S Sn Sm Sf Si Sj Sl Sg M H locs ls hP hD hS hI hl
  have hown : s.vm.findClass RL = some m.cls := hown0
  have htB : ∀ w ∈ zB, w.before #[Value.ref b] s = true := fun w h => hts w (List.mem_filter.mp h).1
  have hA : ∀ q : Nat, s.heap.size ≤ q → (fun q : Nat => s.heap.size ≤ q) q := fun _ h => h
  have hbA : ¬ (fun q : Nat => s.heap.size ≤ q) b := Nat.not_le.mpr hbl
  have hin1 : vp_in (nI i + (1 : Int32)) L := by rw [show nI i + (1 : Int32) = nI (i + 1) from nI_add i 1]; exact vp_in_nI (by omega) (by omega)
  have hin2 : vp_in (nI i + (2 : Int32)) L := by rw [show nI i + (2 : Int32) = nI (i + 2) from nI_add i 2]; exact vp_in_nI (by omega) (by omega)
  have hin3 : vp_in (nI i + (3 : Int32)) L := by rw [show nI i + (3 : Int32) = nI (i + 3) from nI_add i 3]; exact vp_in_nI (by omega) (by omega)
  have hin4 : vp_in (nI i + (4 : Int32)) L := by rw [show nI i + (4 : Int32) = nI (i + 4) from nI_add i 4]; exact vp_in_nI (by omega) (by omega)
  refine lv_aload_n hx hb dL_law_410 rfl (lv_at hl 1 rfl) ?_
  refine lv_aload_n hx hb dL_law_411 rfl (lv_at hl 0 rfl) ?_
  refine lv_iload_n hx hb dL_law_412 rfl (lv_at hl 3 rfl) ?_
  refine lv_iconst (v := (1 : Int32)) hx hb dL_law_413 (by decide) ?_
  refine lv_iadd hx hb dL_law_414 ?_
  refine va_sld hx hb hX hbl hbA hS (hin1) dL_law_415 ?_
  have hsp : (zFl [bX4 ah an am af ai aj al ag cy S, bX3 an cy Sn, bX3 am cy Sm, bX0 af cy Sf, bX3 ai cy Si, bX0 aj cy Sj, bX2 al cy Sl, bX1 ag cy Sg, bX5 az cy M]).Perm ((zFl [bX3 am cy Sm, bX0 af cy Sf, bX3 ai cy Si, bX0 aj cy Sj, bX2 al cy Sl, bX5 az cy M]) ++ ((bX4 ah an am af ai aj al ag cy S) ++ ((bX3 an cy Sn) ++ ((bX1 ag cy Sg))))) := zsp (n := 9) rfl [0, 1, 7] [2, 3, 4, 5, 6, 8] (by decide)
  have hPc : va_P D zCl ((bX4 ah an am af ai aj al ag cy S) ++ ((bX3 an cy Sn) ++ ((bX1 ag cy Sg)))) H := zP_r (zP_perm hP hsp)
  have hDc : va_D (fun q : Nat => s.heap.size ≤ q) ((bX4 ah an am af ai aj al ag cy S) ++ ((bX3 an cy Sn) ++ ((bX1 ag cy Sg)))) := zD_r (zD_perm hD hsp)
  refine zc_p (wd' := fun u => (zFl [bX4 ah an am af ai aj al ag cy (u.1), bX3 an cy Sn, bX3 am cy Sm, bX0 af cy Sf, bX3 ai cy Si, bX0 aj cy Sj, bX2 al cy Sl, bX1 ag cy (u.2), bX5 az cy M])) (va_runV (As := [.int (xs (nI i + (1 : Int32)).toNatClampNeg)]) (rest := []) ⟨hx, hb, hml, hown, htB⟩ (c_X4_comes l D cy ah an am af ai aj al ag H.size Sn (xs (nI i + (1 : Int32)).toNatClampNeg) S Sg (ok_comes hI)) (cwV 1 htB (zgV zm_572 zm_573 zm_574 zm_4 zm_575) rfl rfl rfl hd_X4_comes ⟨Nat.le_of_ble_eq_true rfl, Nat.le_of_ble_eq_true rfl⟩) ⟨zM_blind, va_recv hK hPc (ci := 4) (q0 := 0) rfl rfl, zM_pre hPc hK hN hDc⟩ rfl rfl hl.1 rfl (lv_room (Nat.le_of_ble_eq_true rfl)) dL_law_416 ⟨Nat.le_of_ble_eq_true rfl, Nat.le_of_ble_eq_true rfl⟩) hS hA hP hD hsp (fun u => zsp (n := 9) rfl [0, 1, 7] [2, 3, 4, 5, 6, 8] (by decide)) (fun u => rfl) (fun r1 u H locs h hP hD hS => ?_)
  obtain ⟨S_1, Sg_1⟩ := u
  replace hP : va_P D zCl (zFl [bX4 ah an am af ai aj al ag cy S_1, bX3 an cy Sn, bX3 am cy Sm, bX0 af cy Sf, bX3 ai cy Si, bX0 aj cy Sj, bX2 al cy Sl, bX1 ag cy Sg_1, bX5 az cy M]) H := hP
  replace hD : va_D (fun q : Nat => s.heap.size ≤ q) (zFl [bX4 ah an am af ai aj al ag cy S_1, bX3 an cy Sn, bX3 am cy Sm, bX0 af cy Sf, bX3 ai cy Si, bX0 aj cy Sj, bX2 al cy Sl, bX1 ag cy Sg_1, bX5 az cy M]) := hD
  refine lv_aload_n hx hb dL_law_419 rfl (lv_at hl 2 rfl) ?_
  refine lv_aload_n hx hb dL_law_420 rfl (lv_at hl 0 rfl) ?_
  refine lv_iload_n hx hb dL_law_421 rfl (lv_at hl 3 rfl) ?_
  refine lv_iconst (v := (1 : Int32)) hx hb dL_law_422 (by decide) ?_
  refine lv_iadd hx hb dL_law_423 ?_
  refine va_sld hx hb hX hbl hbA hS (hin1) dL_law_424 ?_
  have hsp : (zFl [bX4 ah an am af ai aj al ag cy S_1, bX3 an cy Sn, bX3 am cy Sm, bX0 af cy Sf, bX3 ai cy Si, bX0 aj cy Sj, bX2 al cy Sl, bX1 ag cy Sg_1, bX5 az cy M]).Perm ((zFl [bX4 ah an am af ai aj al ag cy S_1, bX3 an cy Sn, bX3 am cy Sm, bX0 af cy Sf, bX3 ai cy Si, bX0 aj cy Sj, bX2 al cy Sl, bX1 ag cy Sg_1]) ++ (bX5 az cy M)) := zsp (n := 9) rfl [8] [0, 1, 2, 3, 4, 5, 6, 7] (by decide)
  have hPc : va_P D zCl (bX5 az cy M) H := zP_r (zP_perm hP hsp)
  have hDc : va_D (fun q : Nat => s.heap.size ≤ q) (bX5 az cy M) := zD_r (zD_perm hD hsp)
  refine zc_p (wd' := fun u => (zFl [bX4 ah an am af ai aj al ag cy S_1, bX3 an cy Sn, bX3 am cy Sm, bX0 af cy Sf, bX3 ai cy Si, bX0 aj cy Sj, bX2 al cy Sl, bX1 ag cy Sg_1, bX5 az cy (u)])) (va_runV (As := [.int (xs (nI i + (1 : Int32)).toNatClampNeg)]) (rest := [.int r1]) ⟨hx, hb, hml, hown, htB⟩ (c_X5_comes l D cy az H.size (xs (nI i + (1 : Int32)).toNatClampNeg) M (Q := fun r' M' => r' = r1 ∧ Inv S_1 Sn Sf Si Sj Sl M') h) (cwV 1 htB (zgV zm_576 zm_577 zm_578 zm_263 zm_579) rfl rfl rfl hd_X5_comes ⟨Nat.le_of_ble_eq_true rfl, Nat.le_of_ble_eq_true rfl⟩) ⟨zM_blind, va_recv hK hPc (ci := 5) (q0 := 0) rfl rfl, zM_pre hPc hK hN hDc⟩ rfl rfl hl.1 rfl (lv_room (Nat.le_of_ble_eq_true rfl)) dL_law_425 ⟨Nat.le_of_ble_eq_true rfl, Nat.le_of_ble_eq_true rfl⟩) hS hA hP hD hsp (fun u => zsp (n := 9) rfl [8] [0, 1, 2, 3, 4, 5, 6, 7] (by decide)) (fun u => rfl) (fun r2 u H locs h hP hD hS => ?_)
  obtain ⟨M_2, eu⟩ : ∃ z, z = u := ⟨_, rfl⟩
  subst eu
  replace hP : va_P D zCl (zFl [bX4 ah an am af ai aj al ag cy S_1, bX3 an cy Sn, bX3 am cy Sm, bX0 af cy Sf, bX3 ai cy Si, bX0 aj cy Sj, bX2 al cy Sl, bX1 ag cy Sg_1, bX5 az cy M_2]) H := hP
  replace hD : va_D (fun q : Nat => s.heap.size ≤ q) (zFl [bX4 ah an am af ai aj al ag cy S_1, bX3 an cy Sn, bX3 am cy Sm, bX0 af cy Sf, bX3 ai cy Si, bX0 aj cy Sj, bX2 al cy Sl, bX1 ag cy Sg_1, bX5 az cy M_2]) := hD
  refine lv_icmp_eq (tgt := 1017) hx hb dL_law_428 (by decide) (fun _ => ?_) (fun cn => absurd h.1.symm cn)
  exact cont S_1 Sn Sm Sf Si Sj Sl Sg_1 M_2 H locs ls hP hD hS h.2 hl
set_option maxHeartbeats 4000000 in
set_option maxRecDepth 100000 in
theorem lc_9 (C : zLC p l e s m below meth c D cy b L xs ah an am af ai aj al ag az i) (hi : i + 5 ≤ L) (hL : L ≤ 2560) (cont : zLs1 p l e s m below meth c D cy b L xs ah an am af ai aj al ag az i 1017) : zLs1 p l e s m below meth c D cy b L xs ah an am af ai aj al ag az i 433 := by
  obtain ⟨⟨hx, hb, hr, hml, hown0, hts, hX, hbl, hlocks, hgv⟩, hK, hN, hC⟩ := C
  intro S Sn Sm Sf Si Sj Sl Sg M H locs ls hP hD hS hI hl
  have hown : s.vm.findClass RL = some m.cls := hown0
  have htB : ∀ w ∈ zB, w.before #[Value.ref b] s = true := fun w h => hts w (List.mem_filter.mp h).1
  have hA : ∀ q : Nat, s.heap.size ≤ q → (fun q : Nat => s.heap.size ≤ q) q := fun _ h => h
  have hbA : ¬ (fun q : Nat => s.heap.size ≤ q) b := Nat.not_le.mpr hbl
  have hin1 : vp_in (nI i + (1 : Int32)) L := by rw [show nI i + (1 : Int32) = nI (i + 1) from nI_add i 1]; exact vp_in_nI (by omega) (by omega)
  have hin2 : vp_in (nI i + (2 : Int32)) L := by rw [show nI i + (2 : Int32) = nI (i + 2) from nI_add i 2]; exact vp_in_nI (by omega) (by omega)
  have hin3 : vp_in (nI i + (3 : Int32)) L := by rw [show nI i + (3 : Int32) = nI (i + 3) from nI_add i 3]; exact vp_in_nI (by omega) (by omega)
  have hin4 : vp_in (nI i + (4 : Int32)) L := by rw [show nI i + (4 : Int32) = nI (i + 4) from nI_add i 4]; exact vp_in_nI (by omega) (by omega)
  refine lv_aload_n hx hb dL_law_433 rfl (lv_at hl 1 rfl) ?_
  refine lv_aload_n hx hb dL_law_434 rfl (lv_at hl 0 rfl) ?_
  refine lv_iload_n hx hb dL_law_435 rfl (lv_at hl 3 rfl) ?_
  refine lv_iconst (v := (1 : Int32)) hx hb dL_law_436 (by decide) ?_
  refine lv_iadd hx hb dL_law_437 ?_
  refine va_sld hx hb hX hbl hbA hS (hin1) dL_law_438 ?_
  have hsp : (zFl [bX4 ah an am af ai aj al ag cy S, bX3 an cy Sn, bX3 am cy Sm, bX0 af cy Sf, bX3 ai cy Si, bX0 aj cy Sj, bX2 al cy Sl, bX1 ag cy Sg, bX5 az cy M]).Perm ((zFl [bX3 am cy Sm, bX0 af cy Sf, bX3 ai cy Si, bX0 aj cy Sj, bX2 al cy Sl, bX5 az cy M]) ++ ((bX4 ah an am af ai aj al ag cy S) ++ ((bX3 an cy Sn) ++ ((bX1 ag cy Sg))))) := zsp (n := 9) rfl [0, 1, 7] [2, 3, 4, 5, 6, 8] (by decide)
  have hPc : va_P D zCl ((bX4 ah an am af ai aj al ag cy S) ++ ((bX3 an cy Sn) ++ ((bX1 ag cy Sg)))) H := zP_r (zP_perm hP hsp)
  have hDc : va_D (fun q : Nat => s.heap.size ≤ q) ((bX4 ah an am af ai aj al ag cy S) ++ ((bX3 an cy Sn) ++ ((bX1 ag cy Sg)))) := zD_r (zD_perm hD hsp)
  refine zc_p (wd' := fun u => (zFl [bX4 ah an am af ai aj al ag cy (u.1), bX3 an cy Sn, bX3 am cy Sm, bX0 af cy Sf, bX3 ai cy Si, bX0 aj cy Sj, bX2 al cy Sl, bX1 ag cy (u.2), bX5 az cy M])) (va_runV (As := [.int (xs (nI i + (1 : Int32)).toNatClampNeg)]) (rest := []) ⟨hx, hb, hml, hown, htB⟩ (c_X4_through l D cy ah an am af ai aj al ag H.size Sn (xs (nI i + (1 : Int32)).toNatClampNeg) S Sg (ok_through hI)) (cwV 1 htB (zgV zm_580 zm_581 zm_582 zm_4 zm_583) rfl rfl rfl hd_X4_through ⟨Nat.le_of_ble_eq_true rfl, Nat.le_of_ble_eq_true rfl⟩) ⟨zM_blind, va_recv hK hPc (ci := 4) (q0 := 0) rfl rfl, zM_pre hPc hK hN hDc⟩ rfl rfl hl.1 rfl (lv_room (Nat.le_of_ble_eq_true rfl)) dL_law_439 ⟨Nat.le_of_ble_eq_true rfl, Nat.le_of_ble_eq_true rfl⟩) hS hA hP hD hsp (fun u => zsp (n := 9) rfl [0, 1, 7] [2, 3, 4, 5, 6, 8] (by decide)) (fun u => rfl) (fun r1 u H locs h hP hD hS => ?_)
  obtain ⟨S_1, Sg_1⟩ := u
  replace hP : va_P D zCl (zFl [bX4 ah an am af ai aj al ag cy S_1, bX3 an cy Sn, bX3 am cy Sm, bX0 af cy Sf, bX3 ai cy Si, bX0 aj cy Sj, bX2 al cy Sl, bX1 ag cy Sg_1, bX5 az cy M]) H := hP
  replace hD : va_D (fun q : Nat => s.heap.size ≤ q) (zFl [bX4 ah an am af ai aj al ag cy S_1, bX3 an cy Sn, bX3 am cy Sm, bX0 af cy Sf, bX3 ai cy Si, bX0 aj cy Sj, bX2 al cy Sl, bX1 ag cy Sg_1, bX5 az cy M]) := hD
  refine lv_aload_n hx hb dL_law_442 rfl (lv_at hl 2 rfl) ?_
  refine lv_aload_n hx hb dL_law_443 rfl (lv_at hl 0 rfl) ?_
  refine lv_iload_n hx hb dL_law_444 rfl (lv_at hl 3 rfl) ?_
  refine lv_iconst (v := (1 : Int32)) hx hb dL_law_445 (by decide) ?_
  refine lv_iadd hx hb dL_law_446 ?_
  refine va_sld hx hb hX hbl hbA hS (hin1) dL_law_447 ?_
  have hsp : (zFl [bX4 ah an am af ai aj al ag cy S_1, bX3 an cy Sn, bX3 am cy Sm, bX0 af cy Sf, bX3 ai cy Si, bX0 aj cy Sj, bX2 al cy Sl, bX1 ag cy Sg_1, bX5 az cy M]).Perm ((zFl [bX4 ah an am af ai aj al ag cy S_1, bX3 an cy Sn, bX3 am cy Sm, bX0 af cy Sf, bX3 ai cy Si, bX0 aj cy Sj, bX2 al cy Sl, bX1 ag cy Sg_1]) ++ (bX5 az cy M)) := zsp (n := 9) rfl [8] [0, 1, 2, 3, 4, 5, 6, 7] (by decide)
  have hPc : va_P D zCl (bX5 az cy M) H := zP_r (zP_perm hP hsp)
  have hDc : va_D (fun q : Nat => s.heap.size ≤ q) (bX5 az cy M) := zD_r (zD_perm hD hsp)
  refine zc_p (wd' := fun u => (zFl [bX4 ah an am af ai aj al ag cy S_1, bX3 an cy Sn, bX3 am cy Sm, bX0 af cy Sf, bX3 ai cy Si, bX0 aj cy Sj, bX2 al cy Sl, bX1 ag cy Sg_1, bX5 az cy (u)])) (va_runV (As := [.int (xs (nI i + (1 : Int32)).toNatClampNeg)]) (rest := [.int r1]) ⟨hx, hb, hml, hown, htB⟩ (c_X5_through l D cy az H.size (xs (nI i + (1 : Int32)).toNatClampNeg) M (Q := fun r' M' => r' = r1 ∧ Inv S_1 Sn Sf Si Sj Sl M') h) (cwV 1 htB (zgV zm_584 zm_585 zm_586 zm_263 zm_587) rfl rfl rfl hd_X5_through ⟨Nat.le_of_ble_eq_true rfl, Nat.le_of_ble_eq_true rfl⟩) ⟨zM_blind, va_recv hK hPc (ci := 5) (q0 := 0) rfl rfl, zM_pre hPc hK hN hDc⟩ rfl rfl hl.1 rfl (lv_room (Nat.le_of_ble_eq_true rfl)) dL_law_448 ⟨Nat.le_of_ble_eq_true rfl, Nat.le_of_ble_eq_true rfl⟩) hS hA hP hD hsp (fun u => zsp (n := 9) rfl [8] [0, 1, 2, 3, 4, 5, 6, 7] (by decide)) (fun u => rfl) (fun r2 u H locs h hP hD hS => ?_)
  obtain ⟨M_2, eu⟩ : ∃ z, z = u := ⟨_, rfl⟩
  subst eu
  replace hP : va_P D zCl (zFl [bX4 ah an am af ai aj al ag cy S_1, bX3 an cy Sn, bX3 am cy Sm, bX0 af cy Sf, bX3 ai cy Si, bX0 aj cy Sj, bX2 al cy Sl, bX1 ag cy Sg_1, bX5 az cy M_2]) H := hP
  replace hD : va_D (fun q : Nat => s.heap.size ≤ q) (zFl [bX4 ah an am af ai aj al ag cy S_1, bX3 an cy Sn, bX3 am cy Sm, bX0 af cy Sf, bX3 ai cy Si, bX0 aj cy Sj, bX2 al cy Sl, bX1 ag cy Sg_1, bX5 az cy M_2]) := hD
  refine lv_icmp_eq (tgt := 1017) hx hb dL_law_451 (by decide) (fun _ => ?_) (fun cn => absurd h.1.symm cn)
  exact cont S_1 Sn Sm Sf Si Sj Sl Sg_1 M_2 H locs ls hP hD hS h.2 hl
set_option maxHeartbeats 4000000 in
set_option maxRecDepth 100000 in
theorem lc_10 (C : zLC p l e s m below meth c D cy b L xs ah an am af ai aj al ag az i) (hi : i + 5 ≤ L) (hL : L ≤ 2560) (cont : zLs1 p l e s m below meth c D cy b L xs ah an am af ai aj al ag az i 1017) : zLs1 p l e s m below meth c D cy b L xs ah an am af ai aj al ag az i 456 := by
  obtain ⟨⟨hx, hb, hr, hml, hown0, hts, hX, hbl, hlocks, hgv⟩, hK, hN, hC⟩ := C
  intro S Sn Sm Sf Si Sj Sl Sg M H locs ls hP hD hS hI hl
  have hown : s.vm.findClass RL = some m.cls := hown0
  have htB : ∀ w ∈ zB, w.before #[Value.ref b] s = true := fun w h => hts w (List.mem_filter.mp h).1
  have hA : ∀ q : Nat, s.heap.size ≤ q → (fun q : Nat => s.heap.size ≤ q) q := fun _ h => h
  have hbA : ¬ (fun q : Nat => s.heap.size ≤ q) b := Nat.not_le.mpr hbl
  have hin1 : vp_in (nI i + (1 : Int32)) L := by rw [show nI i + (1 : Int32) = nI (i + 1) from nI_add i 1]; exact vp_in_nI (by omega) (by omega)
  have hin2 : vp_in (nI i + (2 : Int32)) L := by rw [show nI i + (2 : Int32) = nI (i + 2) from nI_add i 2]; exact vp_in_nI (by omega) (by omega)
  have hin3 : vp_in (nI i + (3 : Int32)) L := by rw [show nI i + (3 : Int32) = nI (i + 3) from nI_add i 3]; exact vp_in_nI (by omega) (by omega)
  have hin4 : vp_in (nI i + (4 : Int32)) L := by rw [show nI i + (4 : Int32) = nI (i + 4) from nI_add i 4]; exact vp_in_nI (by omega) (by omega)
  refine lv_aload_n hx hb dL_law_456 rfl (lv_at hl 1 rfl) ?_
  refine lv_aload_n hx hb dL_law_457 rfl (lv_at hl 0 rfl) ?_
  refine lv_iload_n hx hb dL_law_458 rfl (lv_at hl 3 rfl) ?_
  refine lv_iconst (v := (1 : Int32)) hx hb dL_law_459 (by decide) ?_
  refine lv_iadd hx hb dL_law_460 ?_
  refine va_sld hx hb hX hbl hbA hS (hin1) dL_law_461 ?_
  have hsp : (zFl [bX4 ah an am af ai aj al ag cy S, bX3 an cy Sn, bX3 am cy Sm, bX0 af cy Sf, bX3 ai cy Si, bX0 aj cy Sj, bX2 al cy Sl, bX1 ag cy Sg, bX5 az cy M]).Perm ((zFl [bX3 am cy Sm, bX0 af cy Sf, bX3 ai cy Si, bX0 aj cy Sj, bX2 al cy Sl, bX5 az cy M]) ++ ((bX4 ah an am af ai aj al ag cy S) ++ ((bX3 an cy Sn) ++ ((bX1 ag cy Sg))))) := zsp (n := 9) rfl [0, 1, 7] [2, 3, 4, 5, 6, 8] (by decide)
  have hPc : va_P D zCl ((bX4 ah an am af ai aj al ag cy S) ++ ((bX3 an cy Sn) ++ ((bX1 ag cy Sg)))) H := zP_r (zP_perm hP hsp)
  have hDc : va_D (fun q : Nat => s.heap.size ≤ q) ((bX4 ah an am af ai aj al ag cy S) ++ ((bX3 an cy Sn) ++ ((bX1 ag cy Sg)))) := zD_r (zD_perm hD hsp)
  refine zc_p (wd' := fun u => (zFl [bX4 ah an am af ai aj al ag cy (u.1), bX3 an cy Sn, bX3 am cy Sm, bX0 af cy Sf, bX3 ai cy Si, bX0 aj cy Sj, bX2 al cy Sl, bX1 ag cy (u.2), bX5 az cy M])) (va_runV (As := [.int (xs (nI i + (1 : Int32)).toNatClampNeg)]) (rest := []) ⟨hx, hb, hml, hown, htB⟩ (c_X4_opens l D cy ah an am af ai aj al ag H.size Sn (xs (nI i + (1 : Int32)).toNatClampNeg) S Sg (ok_opens hI)) (cwV 1 htB (zgV zm_588 zm_589 zm_590 zm_4 zm_591) rfl rfl rfl hd_X4_opens ⟨Nat.le_of_ble_eq_true rfl, Nat.le_of_ble_eq_true rfl⟩) ⟨zM_blind, va_recv hK hPc (ci := 4) (q0 := 0) rfl rfl, zM_pre hPc hK hN hDc⟩ rfl rfl hl.1 rfl (lv_room (Nat.le_of_ble_eq_true rfl)) dL_law_462 ⟨Nat.le_of_ble_eq_true rfl, Nat.le_of_ble_eq_true rfl⟩) hS hA hP hD hsp (fun u => zsp (n := 9) rfl [0, 1, 7] [2, 3, 4, 5, 6, 8] (by decide)) (fun u => rfl) (fun r1 u H locs h hP hD hS => ?_)
  obtain ⟨S_1, Sg_1⟩ := u
  replace hP : va_P D zCl (zFl [bX4 ah an am af ai aj al ag cy S_1, bX3 an cy Sn, bX3 am cy Sm, bX0 af cy Sf, bX3 ai cy Si, bX0 aj cy Sj, bX2 al cy Sl, bX1 ag cy Sg_1, bX5 az cy M]) H := hP
  replace hD : va_D (fun q : Nat => s.heap.size ≤ q) (zFl [bX4 ah an am af ai aj al ag cy S_1, bX3 an cy Sn, bX3 am cy Sm, bX0 af cy Sf, bX3 ai cy Si, bX0 aj cy Sj, bX2 al cy Sl, bX1 ag cy Sg_1, bX5 az cy M]) := hD
  refine lv_aload_n hx hb dL_law_465 rfl (lv_at hl 2 rfl) ?_
  refine lv_aload_n hx hb dL_law_466 rfl (lv_at hl 0 rfl) ?_
  refine lv_iload_n hx hb dL_law_467 rfl (lv_at hl 3 rfl) ?_
  refine lv_iconst (v := (1 : Int32)) hx hb dL_law_468 (by decide) ?_
  refine lv_iadd hx hb dL_law_469 ?_
  refine va_sld hx hb hX hbl hbA hS (hin1) dL_law_470 ?_
  have hsp : (zFl [bX4 ah an am af ai aj al ag cy S_1, bX3 an cy Sn, bX3 am cy Sm, bX0 af cy Sf, bX3 ai cy Si, bX0 aj cy Sj, bX2 al cy Sl, bX1 ag cy Sg_1, bX5 az cy M]).Perm ((zFl [bX4 ah an am af ai aj al ag cy S_1, bX3 an cy Sn, bX3 am cy Sm, bX0 af cy Sf, bX3 ai cy Si, bX0 aj cy Sj, bX2 al cy Sl, bX1 ag cy Sg_1]) ++ (bX5 az cy M)) := zsp (n := 9) rfl [8] [0, 1, 2, 3, 4, 5, 6, 7] (by decide)
  have hPc : va_P D zCl (bX5 az cy M) H := zP_r (zP_perm hP hsp)
  have hDc : va_D (fun q : Nat => s.heap.size ≤ q) (bX5 az cy M) := zD_r (zD_perm hD hsp)
  refine zc_p (wd' := fun u => (zFl [bX4 ah an am af ai aj al ag cy S_1, bX3 an cy Sn, bX3 am cy Sm, bX0 af cy Sf, bX3 ai cy Si, bX0 aj cy Sj, bX2 al cy Sl, bX1 ag cy Sg_1, bX5 az cy (u)])) (va_runV (As := [.int (xs (nI i + (1 : Int32)).toNatClampNeg)]) (rest := [.int r1]) ⟨hx, hb, hml, hown, htB⟩ (c_X5_opens l D cy az H.size (xs (nI i + (1 : Int32)).toNatClampNeg) M (Q := fun r' M' => r' = r1 ∧ Inv S_1 Sn Sf Si Sj Sl M') h) (cwV 1 htB (zgV zm_592 zm_593 zm_594 zm_263 zm_595) rfl rfl rfl hd_X5_opens ⟨Nat.le_of_ble_eq_true rfl, Nat.le_of_ble_eq_true rfl⟩) ⟨zM_blind, va_recv hK hPc (ci := 5) (q0 := 0) rfl rfl, zM_pre hPc hK hN hDc⟩ rfl rfl hl.1 rfl (lv_room (Nat.le_of_ble_eq_true rfl)) dL_law_471 ⟨Nat.le_of_ble_eq_true rfl, Nat.le_of_ble_eq_true rfl⟩) hS hA hP hD hsp (fun u => zsp (n := 9) rfl [8] [0, 1, 2, 3, 4, 5, 6, 7] (by decide)) (fun u => rfl) (fun r2 u H locs h hP hD hS => ?_)
  obtain ⟨M_2, eu⟩ : ∃ z, z = u := ⟨_, rfl⟩
  subst eu
  replace hP : va_P D zCl (zFl [bX4 ah an am af ai aj al ag cy S_1, bX3 an cy Sn, bX3 am cy Sm, bX0 af cy Sf, bX3 ai cy Si, bX0 aj cy Sj, bX2 al cy Sl, bX1 ag cy Sg_1, bX5 az cy M_2]) H := hP
  replace hD : va_D (fun q : Nat => s.heap.size ≤ q) (zFl [bX4 ah an am af ai aj al ag cy S_1, bX3 an cy Sn, bX3 am cy Sm, bX0 af cy Sf, bX3 ai cy Si, bX0 aj cy Sj, bX2 al cy Sl, bX1 ag cy Sg_1, bX5 az cy M_2]) := hD
  refine lv_icmp_eq (tgt := 1017) hx hb dL_law_474 (by decide) (fun _ => ?_) (fun cn => absurd h.1.symm cn)
  exact cont S_1 Sn Sm Sf Si Sj Sl Sg_1 M_2 H locs ls hP hD hS h.2 hl
set_option maxHeartbeats 4000000 in
set_option maxRecDepth 100000 in
theorem lc_11 (C : zLC p l e s m below meth c D cy b L xs ah an am af ai aj al ag az i) (hi : i + 5 ≤ L) (hL : L ≤ 2560) (cont : zLs1 p l e s m below meth c D cy b L xs ah an am af ai aj al ag az i 1017) : zLs1 p l e s m below meth c D cy b L xs ah an am af ai aj al ag az i 479 := by
  obtain ⟨⟨hx, hb, hr, hml, hown0, hts, hX, hbl, hlocks, hgv⟩, hK, hN, hC⟩ := C
  intro S Sn Sm Sf Si Sj Sl Sg M H locs ls hP hD hS hI hl
  have hown : s.vm.findClass RL = some m.cls := hown0
  have htB : ∀ w ∈ zB, w.before #[Value.ref b] s = true := fun w h => hts w (List.mem_filter.mp h).1
  have hA : ∀ q : Nat, s.heap.size ≤ q → (fun q : Nat => s.heap.size ≤ q) q := fun _ h => h
  have hbA : ¬ (fun q : Nat => s.heap.size ≤ q) b := Nat.not_le.mpr hbl
  have hin1 : vp_in (nI i + (1 : Int32)) L := by rw [show nI i + (1 : Int32) = nI (i + 1) from nI_add i 1]; exact vp_in_nI (by omega) (by omega)
  have hin2 : vp_in (nI i + (2 : Int32)) L := by rw [show nI i + (2 : Int32) = nI (i + 2) from nI_add i 2]; exact vp_in_nI (by omega) (by omega)
  have hin3 : vp_in (nI i + (3 : Int32)) L := by rw [show nI i + (3 : Int32) = nI (i + 3) from nI_add i 3]; exact vp_in_nI (by omega) (by omega)
  have hin4 : vp_in (nI i + (4 : Int32)) L := by rw [show nI i + (4 : Int32) = nI (i + 4) from nI_add i 4]; exact vp_in_nI (by omega) (by omega)
  refine lv_aload_n hx hb dL_law_479 rfl (lv_at hl 1 rfl) ?_
  refine lv_aload_n hx hb dL_law_480 rfl (lv_at hl 0 rfl) ?_
  refine lv_iload_n hx hb dL_law_481 rfl (lv_at hl 3 rfl) ?_
  refine lv_iconst (v := (1 : Int32)) hx hb dL_law_482 (by decide) ?_
  refine lv_iadd hx hb dL_law_483 ?_
  refine va_sld hx hb hX hbl hbA hS (hin1) dL_law_484 ?_
  have hsp : (zFl [bX4 ah an am af ai aj al ag cy S, bX3 an cy Sn, bX3 am cy Sm, bX0 af cy Sf, bX3 ai cy Si, bX0 aj cy Sj, bX2 al cy Sl, bX1 ag cy Sg, bX5 az cy M]).Perm ((zFl [bX3 am cy Sm, bX0 af cy Sf, bX3 ai cy Si, bX0 aj cy Sj, bX2 al cy Sl, bX5 az cy M]) ++ ((bX4 ah an am af ai aj al ag cy S) ++ ((bX3 an cy Sn) ++ ((bX1 ag cy Sg))))) := zsp (n := 9) rfl [0, 1, 7] [2, 3, 4, 5, 6, 8] (by decide)
  have hPc : va_P D zCl ((bX4 ah an am af ai aj al ag cy S) ++ ((bX3 an cy Sn) ++ ((bX1 ag cy Sg)))) H := zP_r (zP_perm hP hsp)
  have hDc : va_D (fun q : Nat => s.heap.size ≤ q) ((bX4 ah an am af ai aj al ag cy S) ++ ((bX3 an cy Sn) ++ ((bX1 ag cy Sg)))) := zD_r (zD_perm hD hsp)
  refine zc_p (wd' := fun u => (zFl [bX4 ah an am af ai aj al ag cy (u.1), bX3 an cy Sn, bX3 am cy Sm, bX0 af cy Sf, bX3 ai cy Si, bX0 aj cy Sj, bX2 al cy Sl, bX1 ag cy (u.2), bX5 az cy M])) (va_runV (As := [.int (xs (nI i + (1 : Int32)).toNatClampNeg)]) (rest := []) ⟨hx, hb, hml, hown, htB⟩ (c_X4_stands l D cy ah an am af ai aj al ag H.size Sn (xs (nI i + (1 : Int32)).toNatClampNeg) S Sg (ok_stands hI)) (cwV 1 htB (zgV zm_596 zm_597 zm_598 zm_4 zm_599) rfl rfl rfl hd_X4_stands ⟨Nat.le_of_ble_eq_true rfl, Nat.le_of_ble_eq_true rfl⟩) ⟨zM_blind, va_recv hK hPc (ci := 4) (q0 := 0) rfl rfl, zM_pre hPc hK hN hDc⟩ rfl rfl hl.1 rfl (lv_room (Nat.le_of_ble_eq_true rfl)) dL_law_485 ⟨Nat.le_of_ble_eq_true rfl, Nat.le_of_ble_eq_true rfl⟩) hS hA hP hD hsp (fun u => zsp (n := 9) rfl [0, 1, 7] [2, 3, 4, 5, 6, 8] (by decide)) (fun u => rfl) (fun r1 u H locs h hP hD hS => ?_)
  obtain ⟨S_1, Sg_1⟩ := u
  replace hP : va_P D zCl (zFl [bX4 ah an am af ai aj al ag cy S_1, bX3 an cy Sn, bX3 am cy Sm, bX0 af cy Sf, bX3 ai cy Si, bX0 aj cy Sj, bX2 al cy Sl, bX1 ag cy Sg_1, bX5 az cy M]) H := hP
  replace hD : va_D (fun q : Nat => s.heap.size ≤ q) (zFl [bX4 ah an am af ai aj al ag cy S_1, bX3 an cy Sn, bX3 am cy Sm, bX0 af cy Sf, bX3 ai cy Si, bX0 aj cy Sj, bX2 al cy Sl, bX1 ag cy Sg_1, bX5 az cy M]) := hD
  refine lv_aload_n hx hb dL_law_488 rfl (lv_at hl 2 rfl) ?_
  refine lv_aload_n hx hb dL_law_489 rfl (lv_at hl 0 rfl) ?_
  refine lv_iload_n hx hb dL_law_490 rfl (lv_at hl 3 rfl) ?_
  refine lv_iconst (v := (1 : Int32)) hx hb dL_law_491 (by decide) ?_
  refine lv_iadd hx hb dL_law_492 ?_
  refine va_sld hx hb hX hbl hbA hS (hin1) dL_law_493 ?_
  have hsp : (zFl [bX4 ah an am af ai aj al ag cy S_1, bX3 an cy Sn, bX3 am cy Sm, bX0 af cy Sf, bX3 ai cy Si, bX0 aj cy Sj, bX2 al cy Sl, bX1 ag cy Sg_1, bX5 az cy M]).Perm ((zFl [bX4 ah an am af ai aj al ag cy S_1, bX3 an cy Sn, bX3 am cy Sm, bX0 af cy Sf, bX3 ai cy Si, bX0 aj cy Sj, bX2 al cy Sl, bX1 ag cy Sg_1]) ++ (bX5 az cy M)) := zsp (n := 9) rfl [8] [0, 1, 2, 3, 4, 5, 6, 7] (by decide)
  have hPc : va_P D zCl (bX5 az cy M) H := zP_r (zP_perm hP hsp)
  have hDc : va_D (fun q : Nat => s.heap.size ≤ q) (bX5 az cy M) := zD_r (zD_perm hD hsp)
  refine zc_p (wd' := fun u => (zFl [bX4 ah an am af ai aj al ag cy S_1, bX3 an cy Sn, bX3 am cy Sm, bX0 af cy Sf, bX3 ai cy Si, bX0 aj cy Sj, bX2 al cy Sl, bX1 ag cy Sg_1, bX5 az cy (u)])) (va_runV (As := [.int (xs (nI i + (1 : Int32)).toNatClampNeg)]) (rest := [.int r1]) ⟨hx, hb, hml, hown, htB⟩ (c_X5_stands l D cy az H.size (xs (nI i + (1 : Int32)).toNatClampNeg) M (Q := fun r' M' => r' = r1 ∧ Inv S_1 Sn Sf Si Sj Sl M') h) (cwV 1 htB (zgV zm_600 zm_601 zm_602 zm_263 zm_603) rfl rfl rfl hd_X5_stands ⟨Nat.le_of_ble_eq_true rfl, Nat.le_of_ble_eq_true rfl⟩) ⟨zM_blind, va_recv hK hPc (ci := 5) (q0 := 0) rfl rfl, zM_pre hPc hK hN hDc⟩ rfl rfl hl.1 rfl (lv_room (Nat.le_of_ble_eq_true rfl)) dL_law_494 ⟨Nat.le_of_ble_eq_true rfl, Nat.le_of_ble_eq_true rfl⟩) hS hA hP hD hsp (fun u => zsp (n := 9) rfl [8] [0, 1, 2, 3, 4, 5, 6, 7] (by decide)) (fun u => rfl) (fun r2 u H locs h hP hD hS => ?_)
  obtain ⟨M_2, eu⟩ : ∃ z, z = u := ⟨_, rfl⟩
  subst eu
  replace hP : va_P D zCl (zFl [bX4 ah an am af ai aj al ag cy S_1, bX3 an cy Sn, bX3 am cy Sm, bX0 af cy Sf, bX3 ai cy Si, bX0 aj cy Sj, bX2 al cy Sl, bX1 ag cy Sg_1, bX5 az cy M_2]) H := hP
  replace hD : va_D (fun q : Nat => s.heap.size ≤ q) (zFl [bX4 ah an am af ai aj al ag cy S_1, bX3 an cy Sn, bX3 am cy Sm, bX0 af cy Sf, bX3 ai cy Si, bX0 aj cy Sj, bX2 al cy Sl, bX1 ag cy Sg_1, bX5 az cy M_2]) := hD
  refine lv_icmp_eq (tgt := 1017) hx hb dL_law_497 (by decide) (fun _ => ?_) (fun cn => absurd h.1.symm cn)
  exact cont S_1 Sn Sm Sf Si Sj Sl Sg_1 M_2 H locs ls hP hD hS h.2 hl
set_option maxHeartbeats 4000000 in
set_option maxRecDepth 100000 in
theorem lc_12 (C : zLC p l e s m below meth c D cy b L xs ah an am af ai aj al ag az i) (hi : i + 5 ≤ L) (hL : L ≤ 2560) (cont : zLs1 p l e s m below meth c D cy b L xs ah an am af ai aj al ag az i 1017) : zLs1 p l e s m below meth c D cy b L xs ah an am af ai aj al ag az i 502 := by
  obtain ⟨⟨hx, hb, hr, hml, hown0, hts, hX, hbl, hlocks, hgv⟩, hK, hN, hC⟩ := C
  intro S Sn Sm Sf Si Sj Sl Sg M H locs ls hP hD hS hI hl
  have hown : s.vm.findClass RL = some m.cls := hown0
  have htB : ∀ w ∈ zB, w.before #[Value.ref b] s = true := fun w h => hts w (List.mem_filter.mp h).1
  have hA : ∀ q : Nat, s.heap.size ≤ q → (fun q : Nat => s.heap.size ≤ q) q := fun _ h => h
  have hbA : ¬ (fun q : Nat => s.heap.size ≤ q) b := Nat.not_le.mpr hbl
  have hin1 : vp_in (nI i + (1 : Int32)) L := by rw [show nI i + (1 : Int32) = nI (i + 1) from nI_add i 1]; exact vp_in_nI (by omega) (by omega)
  have hin2 : vp_in (nI i + (2 : Int32)) L := by rw [show nI i + (2 : Int32) = nI (i + 2) from nI_add i 2]; exact vp_in_nI (by omega) (by omega)
  have hin3 : vp_in (nI i + (3 : Int32)) L := by rw [show nI i + (3 : Int32) = nI (i + 3) from nI_add i 3]; exact vp_in_nI (by omega) (by omega)
  have hin4 : vp_in (nI i + (4 : Int32)) L := by rw [show nI i + (4 : Int32) = nI (i + 4) from nI_add i 4]; exact vp_in_nI (by omega) (by omega)
  refine lv_aload_n hx hb dL_law_502 rfl (lv_at hl 1 rfl) ?_
  refine lv_aload_n hx hb dL_law_503 rfl (lv_at hl 0 rfl) ?_
  refine lv_iload_n hx hb dL_law_504 rfl (lv_at hl 3 rfl) ?_
  refine lv_iconst (v := (1 : Int32)) hx hb dL_law_505 (by decide) ?_
  refine lv_iadd hx hb dL_law_506 ?_
  refine va_sld hx hb hX hbl hbA hS (hin1) dL_law_507 ?_
  have hsp : (zFl [bX4 ah an am af ai aj al ag cy S, bX3 an cy Sn, bX3 am cy Sm, bX0 af cy Sf, bX3 ai cy Si, bX0 aj cy Sj, bX2 al cy Sl, bX1 ag cy Sg, bX5 az cy M]).Perm ((zFl [bX3 am cy Sm, bX0 af cy Sf, bX3 ai cy Si, bX0 aj cy Sj, bX2 al cy Sl, bX5 az cy M]) ++ ((bX4 ah an am af ai aj al ag cy S) ++ ((bX3 an cy Sn) ++ ((bX1 ag cy Sg))))) := zsp (n := 9) rfl [0, 1, 7] [2, 3, 4, 5, 6, 8] (by decide)
  have hPc : va_P D zCl ((bX4 ah an am af ai aj al ag cy S) ++ ((bX3 an cy Sn) ++ ((bX1 ag cy Sg)))) H := zP_r (zP_perm hP hsp)
  have hDc : va_D (fun q : Nat => s.heap.size ≤ q) ((bX4 ah an am af ai aj al ag cy S) ++ ((bX3 an cy Sn) ++ ((bX1 ag cy Sg)))) := zD_r (zD_perm hD hsp)
  refine zc_p (wd' := fun u => (zFl [bX4 ah an am af ai aj al ag cy (u.1), bX3 an cy Sn, bX3 am cy Sm, bX0 af cy Sf, bX3 ai cy Si, bX0 aj cy Sj, bX2 al cy Sl, bX1 ag cy (u.2), bX5 az cy M])) (va_runV (As := [.int (xs (nI i + (1 : Int32)).toNatClampNeg)]) (rest := []) ⟨hx, hb, hml, hown, htB⟩ (c_X4_by l D cy ah an am af ai aj al ag H.size Sn (xs (nI i + (1 : Int32)).toNatClampNeg) S Sg (ok_by hI)) (cwV 1 htB (zgV zm_604 zm_605 zm_606 zm_4 zm_607) rfl rfl rfl hd_X4_by ⟨Nat.le_of_ble_eq_true rfl, Nat.le_of_ble_eq_true rfl⟩) ⟨zM_blind, va_recv hK hPc (ci := 4) (q0 := 0) rfl rfl, zM_pre hPc hK hN hDc⟩ rfl rfl hl.1 rfl (lv_room (Nat.le_of_ble_eq_true rfl)) dL_law_508 ⟨Nat.le_of_ble_eq_true rfl, Nat.le_of_ble_eq_true rfl⟩) hS hA hP hD hsp (fun u => zsp (n := 9) rfl [0, 1, 7] [2, 3, 4, 5, 6, 8] (by decide)) (fun u => rfl) (fun r1 u H locs h hP hD hS => ?_)
  obtain ⟨S_1, Sg_1⟩ := u
  replace hP : va_P D zCl (zFl [bX4 ah an am af ai aj al ag cy S_1, bX3 an cy Sn, bX3 am cy Sm, bX0 af cy Sf, bX3 ai cy Si, bX0 aj cy Sj, bX2 al cy Sl, bX1 ag cy Sg_1, bX5 az cy M]) H := hP
  replace hD : va_D (fun q : Nat => s.heap.size ≤ q) (zFl [bX4 ah an am af ai aj al ag cy S_1, bX3 an cy Sn, bX3 am cy Sm, bX0 af cy Sf, bX3 ai cy Si, bX0 aj cy Sj, bX2 al cy Sl, bX1 ag cy Sg_1, bX5 az cy M]) := hD
  refine lv_aload_n hx hb dL_law_511 rfl (lv_at hl 2 rfl) ?_
  refine lv_aload_n hx hb dL_law_512 rfl (lv_at hl 0 rfl) ?_
  refine lv_iload_n hx hb dL_law_513 rfl (lv_at hl 3 rfl) ?_
  refine lv_iconst (v := (1 : Int32)) hx hb dL_law_514 (by decide) ?_
  refine lv_iadd hx hb dL_law_515 ?_
  refine va_sld hx hb hX hbl hbA hS (hin1) dL_law_516 ?_
  have hsp : (zFl [bX4 ah an am af ai aj al ag cy S_1, bX3 an cy Sn, bX3 am cy Sm, bX0 af cy Sf, bX3 ai cy Si, bX0 aj cy Sj, bX2 al cy Sl, bX1 ag cy Sg_1, bX5 az cy M]).Perm ((zFl [bX4 ah an am af ai aj al ag cy S_1, bX3 an cy Sn, bX3 am cy Sm, bX0 af cy Sf, bX3 ai cy Si, bX0 aj cy Sj, bX2 al cy Sl, bX1 ag cy Sg_1]) ++ (bX5 az cy M)) := zsp (n := 9) rfl [8] [0, 1, 2, 3, 4, 5, 6, 7] (by decide)
  have hPc : va_P D zCl (bX5 az cy M) H := zP_r (zP_perm hP hsp)
  have hDc : va_D (fun q : Nat => s.heap.size ≤ q) (bX5 az cy M) := zD_r (zD_perm hD hsp)
  refine zc_p (wd' := fun u => (zFl [bX4 ah an am af ai aj al ag cy S_1, bX3 an cy Sn, bX3 am cy Sm, bX0 af cy Sf, bX3 ai cy Si, bX0 aj cy Sj, bX2 al cy Sl, bX1 ag cy Sg_1, bX5 az cy (u)])) (va_runV (As := [.int (xs (nI i + (1 : Int32)).toNatClampNeg)]) (rest := [.int r1]) ⟨hx, hb, hml, hown, htB⟩ (c_X5_by l D cy az H.size (xs (nI i + (1 : Int32)).toNatClampNeg) M (Q := fun r' M' => r' = r1 ∧ Inv S_1 Sn Sf Si Sj Sl M') h) (cwV 1 htB (zgV zm_608 zm_609 zm_610 zm_263 zm_611) rfl rfl rfl hd_X5_by ⟨Nat.le_of_ble_eq_true rfl, Nat.le_of_ble_eq_true rfl⟩) ⟨zM_blind, va_recv hK hPc (ci := 5) (q0 := 0) rfl rfl, zM_pre hPc hK hN hDc⟩ rfl rfl hl.1 rfl (lv_room (Nat.le_of_ble_eq_true rfl)) dL_law_517 ⟨Nat.le_of_ble_eq_true rfl, Nat.le_of_ble_eq_true rfl⟩) hS hA hP hD hsp (fun u => zsp (n := 9) rfl [8] [0, 1, 2, 3, 4, 5, 6, 7] (by decide)) (fun u => rfl) (fun r2 u H locs h hP hD hS => ?_)
  obtain ⟨M_2, eu⟩ : ∃ z, z = u := ⟨_, rfl⟩
  subst eu
  replace hP : va_P D zCl (zFl [bX4 ah an am af ai aj al ag cy S_1, bX3 an cy Sn, bX3 am cy Sm, bX0 af cy Sf, bX3 ai cy Si, bX0 aj cy Sj, bX2 al cy Sl, bX1 ag cy Sg_1, bX5 az cy M_2]) H := hP
  replace hD : va_D (fun q : Nat => s.heap.size ≤ q) (zFl [bX4 ah an am af ai aj al ag cy S_1, bX3 an cy Sn, bX3 am cy Sm, bX0 af cy Sf, bX3 ai cy Si, bX0 aj cy Sj, bX2 al cy Sl, bX1 ag cy Sg_1, bX5 az cy M_2]) := hD
  refine lv_icmp_eq (tgt := 1017) hx hb dL_law_520 (by decide) (fun _ => ?_) (fun cn => absurd h.1.symm cn)
  exact cont S_1 Sn Sm Sf Si Sj Sl Sg_1 M_2 H locs ls hP hD hS h.2 hl
set_option maxHeartbeats 4000000 in
set_option maxRecDepth 100000 in
theorem lc_13 (C : zLC p l e s m below meth c D cy b L xs ah an am af ai aj al ag az i) (hi : i + 5 ≤ L) (hL : L ≤ 2560) (cont : zLs1 p l e s m below meth c D cy b L xs ah an am af ai aj al ag az i 1017) : zLs1 p l e s m below meth c D cy b L xs ah an am af ai aj al ag az i 525 := by
  obtain ⟨⟨hx, hb, hr, hml, hown0, hts, hX, hbl, hlocks, hgv⟩, hK, hN, hC⟩ := C
  intro S Sn Sm Sf Si Sj Sl Sg M H locs ls hP hD hS hI hl
  have hown : s.vm.findClass RL = some m.cls := hown0
  have htB : ∀ w ∈ zB, w.before #[Value.ref b] s = true := fun w h => hts w (List.mem_filter.mp h).1
  have hA : ∀ q : Nat, s.heap.size ≤ q → (fun q : Nat => s.heap.size ≤ q) q := fun _ h => h
  have hbA : ¬ (fun q : Nat => s.heap.size ≤ q) b := Nat.not_le.mpr hbl
  have hin1 : vp_in (nI i + (1 : Int32)) L := by rw [show nI i + (1 : Int32) = nI (i + 1) from nI_add i 1]; exact vp_in_nI (by omega) (by omega)
  have hin2 : vp_in (nI i + (2 : Int32)) L := by rw [show nI i + (2 : Int32) = nI (i + 2) from nI_add i 2]; exact vp_in_nI (by omega) (by omega)
  have hin3 : vp_in (nI i + (3 : Int32)) L := by rw [show nI i + (3 : Int32) = nI (i + 3) from nI_add i 3]; exact vp_in_nI (by omega) (by omega)
  have hin4 : vp_in (nI i + (4 : Int32)) L := by rw [show nI i + (4 : Int32) = nI (i + 4) from nI_add i 4]; exact vp_in_nI (by omega) (by omega)
  refine lv_aload_n hx hb dL_law_525 rfl (lv_at hl 1 rfl) ?_
  refine lv_aload_n hx hb dL_law_526 rfl (lv_at hl 0 rfl) ?_
  refine lv_iload_n hx hb dL_law_527 rfl (lv_at hl 3 rfl) ?_
  refine lv_iconst (v := (1 : Int32)) hx hb dL_law_528 (by decide) ?_
  refine lv_iadd hx hb dL_law_529 ?_
  refine va_sld hx hb hX hbl hbA hS (hin1) dL_law_530 ?_
  have hsp : (zFl [bX4 ah an am af ai aj al ag cy S, bX3 an cy Sn, bX3 am cy Sm, bX0 af cy Sf, bX3 ai cy Si, bX0 aj cy Sj, bX2 al cy Sl, bX1 ag cy Sg, bX5 az cy M]).Perm ((zFl [bX3 am cy Sm, bX0 af cy Sf, bX3 ai cy Si, bX0 aj cy Sj, bX2 al cy Sl, bX5 az cy M]) ++ ((bX4 ah an am af ai aj al ag cy S) ++ ((bX3 an cy Sn) ++ ((bX1 ag cy Sg))))) := zsp (n := 9) rfl [0, 1, 7] [2, 3, 4, 5, 6, 8] (by decide)
  have hPc : va_P D zCl ((bX4 ah an am af ai aj al ag cy S) ++ ((bX3 an cy Sn) ++ ((bX1 ag cy Sg)))) H := zP_r (zP_perm hP hsp)
  have hDc : va_D (fun q : Nat => s.heap.size ≤ q) ((bX4 ah an am af ai aj al ag cy S) ++ ((bX3 an cy Sn) ++ ((bX1 ag cy Sg)))) := zD_r (zD_perm hD hsp)
  refine zc_p (wd' := fun u => (zFl [bX4 ah an am af ai aj al ag cy (u.1), bX3 an cy Sn, bX3 am cy Sm, bX0 af cy Sf, bX3 ai cy Si, bX0 aj cy Sj, bX2 al cy Sl, bX1 ag cy (u.2), bX5 az cy M])) (va_runV (As := [.int (xs (nI i + (1 : Int32)).toNatClampNeg)]) (rest := []) ⟨hx, hb, hml, hown, htB⟩ (c_X4_runs l D cy ah an am af ai aj al ag H.size Sn (xs (nI i + (1 : Int32)).toNatClampNeg) S Sg (ok_runs hI)) (cwV 1 htB (zgV zm_612 zm_613 zm_614 zm_4 zm_615) rfl rfl rfl hd_X4_runs ⟨Nat.le_of_ble_eq_true rfl, Nat.le_of_ble_eq_true rfl⟩) ⟨zM_blind, va_recv hK hPc (ci := 4) (q0 := 0) rfl rfl, zM_pre hPc hK hN hDc⟩ rfl rfl hl.1 rfl (lv_room (Nat.le_of_ble_eq_true rfl)) dL_law_531 ⟨Nat.le_of_ble_eq_true rfl, Nat.le_of_ble_eq_true rfl⟩) hS hA hP hD hsp (fun u => zsp (n := 9) rfl [0, 1, 7] [2, 3, 4, 5, 6, 8] (by decide)) (fun u => rfl) (fun r1 u H locs h hP hD hS => ?_)
  obtain ⟨S_1, Sg_1⟩ := u
  replace hP : va_P D zCl (zFl [bX4 ah an am af ai aj al ag cy S_1, bX3 an cy Sn, bX3 am cy Sm, bX0 af cy Sf, bX3 ai cy Si, bX0 aj cy Sj, bX2 al cy Sl, bX1 ag cy Sg_1, bX5 az cy M]) H := hP
  replace hD : va_D (fun q : Nat => s.heap.size ≤ q) (zFl [bX4 ah an am af ai aj al ag cy S_1, bX3 an cy Sn, bX3 am cy Sm, bX0 af cy Sf, bX3 ai cy Si, bX0 aj cy Sj, bX2 al cy Sl, bX1 ag cy Sg_1, bX5 az cy M]) := hD
  refine lv_aload_n hx hb dL_law_534 rfl (lv_at hl 2 rfl) ?_
  refine lv_aload_n hx hb dL_law_535 rfl (lv_at hl 0 rfl) ?_
  refine lv_iload_n hx hb dL_law_536 rfl (lv_at hl 3 rfl) ?_
  refine lv_iconst (v := (1 : Int32)) hx hb dL_law_537 (by decide) ?_
  refine lv_iadd hx hb dL_law_538 ?_
  refine va_sld hx hb hX hbl hbA hS (hin1) dL_law_539 ?_
  have hsp : (zFl [bX4 ah an am af ai aj al ag cy S_1, bX3 an cy Sn, bX3 am cy Sm, bX0 af cy Sf, bX3 ai cy Si, bX0 aj cy Sj, bX2 al cy Sl, bX1 ag cy Sg_1, bX5 az cy M]).Perm ((zFl [bX4 ah an am af ai aj al ag cy S_1, bX3 an cy Sn, bX3 am cy Sm, bX0 af cy Sf, bX3 ai cy Si, bX0 aj cy Sj, bX2 al cy Sl, bX1 ag cy Sg_1]) ++ (bX5 az cy M)) := zsp (n := 9) rfl [8] [0, 1, 2, 3, 4, 5, 6, 7] (by decide)
  have hPc : va_P D zCl (bX5 az cy M) H := zP_r (zP_perm hP hsp)
  have hDc : va_D (fun q : Nat => s.heap.size ≤ q) (bX5 az cy M) := zD_r (zD_perm hD hsp)
  refine zc_p (wd' := fun u => (zFl [bX4 ah an am af ai aj al ag cy S_1, bX3 an cy Sn, bX3 am cy Sm, bX0 af cy Sf, bX3 ai cy Si, bX0 aj cy Sj, bX2 al cy Sl, bX1 ag cy Sg_1, bX5 az cy (u)])) (va_runV (As := [.int (xs (nI i + (1 : Int32)).toNatClampNeg)]) (rest := [.int r1]) ⟨hx, hb, hml, hown, htB⟩ (c_X5_runs l D cy az H.size (xs (nI i + (1 : Int32)).toNatClampNeg) M (Q := fun r' M' => r' = r1 ∧ Inv S_1 Sn Sf Si Sj Sl M') h) (cwV 1 htB (zgV zm_616 zm_617 zm_618 zm_263 zm_619) rfl rfl rfl hd_X5_runs ⟨Nat.le_of_ble_eq_true rfl, Nat.le_of_ble_eq_true rfl⟩) ⟨zM_blind, va_recv hK hPc (ci := 5) (q0 := 0) rfl rfl, zM_pre hPc hK hN hDc⟩ rfl rfl hl.1 rfl (lv_room (Nat.le_of_ble_eq_true rfl)) dL_law_540 ⟨Nat.le_of_ble_eq_true rfl, Nat.le_of_ble_eq_true rfl⟩) hS hA hP hD hsp (fun u => zsp (n := 9) rfl [8] [0, 1, 2, 3, 4, 5, 6, 7] (by decide)) (fun u => rfl) (fun r2 u H locs h hP hD hS => ?_)
  obtain ⟨M_2, eu⟩ : ∃ z, z = u := ⟨_, rfl⟩
  subst eu
  replace hP : va_P D zCl (zFl [bX4 ah an am af ai aj al ag cy S_1, bX3 an cy Sn, bX3 am cy Sm, bX0 af cy Sf, bX3 ai cy Si, bX0 aj cy Sj, bX2 al cy Sl, bX1 ag cy Sg_1, bX5 az cy M_2]) H := hP
  replace hD : va_D (fun q : Nat => s.heap.size ≤ q) (zFl [bX4 ah an am af ai aj al ag cy S_1, bX3 an cy Sn, bX3 am cy Sm, bX0 af cy Sf, bX3 ai cy Si, bX0 aj cy Sj, bX2 al cy Sl, bX1 ag cy Sg_1, bX5 az cy M_2]) := hD
  refine lv_icmp_eq (tgt := 1017) hx hb dL_law_543 (by decide) (fun _ => ?_) (fun cn => absurd h.1.symm cn)
  exact cont S_1 Sn Sm Sf Si Sj Sl Sg_1 M_2 H locs ls hP hD hS h.2 hl
set_option maxHeartbeats 4000000 in
set_option maxRecDepth 100000 in
theorem lc_14 (C : zLC p l e s m below meth c D cy b L xs ah an am af ai aj al ag az i) (hi : i + 5 ≤ L) (hL : L ≤ 2560) (cont : zLs1 p l e s m below meth c D cy b L xs ah an am af ai aj al ag az i 1017) : zLs1 p l e s m below meth c D cy b L xs ah an am af ai aj al ag az i 548 := by
  obtain ⟨⟨hx, hb, hr, hml, hown0, hts, hX, hbl, hlocks, hgv⟩, hK, hN, hC⟩ := C
  intro S Sn Sm Sf Si Sj Sl Sg M H locs ls hP hD hS hI hl
  have hown : s.vm.findClass RL = some m.cls := hown0
  have htB : ∀ w ∈ zB, w.before #[Value.ref b] s = true := fun w h => hts w (List.mem_filter.mp h).1
  have hA : ∀ q : Nat, s.heap.size ≤ q → (fun q : Nat => s.heap.size ≤ q) q := fun _ h => h
  have hbA : ¬ (fun q : Nat => s.heap.size ≤ q) b := Nat.not_le.mpr hbl
  have hin1 : vp_in (nI i + (1 : Int32)) L := by rw [show nI i + (1 : Int32) = nI (i + 1) from nI_add i 1]; exact vp_in_nI (by omega) (by omega)
  have hin2 : vp_in (nI i + (2 : Int32)) L := by rw [show nI i + (2 : Int32) = nI (i + 2) from nI_add i 2]; exact vp_in_nI (by omega) (by omega)
  have hin3 : vp_in (nI i + (3 : Int32)) L := by rw [show nI i + (3 : Int32) = nI (i + 3) from nI_add i 3]; exact vp_in_nI (by omega) (by omega)
  have hin4 : vp_in (nI i + (4 : Int32)) L := by rw [show nI i + (4 : Int32) = nI (i + 4) from nI_add i 4]; exact vp_in_nI (by omega) (by omega)
  refine lv_aload_n hx hb dL_law_548 rfl (lv_at hl 1 rfl) ?_
  refine lv_aload_n hx hb dL_law_549 rfl (lv_at hl 0 rfl) ?_
  refine lv_iload_n hx hb dL_law_550 rfl (lv_at hl 3 rfl) ?_
  refine lv_iconst (v := (1 : Int32)) hx hb dL_law_551 (by decide) ?_
  refine lv_iadd hx hb dL_law_552 ?_
  refine va_sld hx hb hX hbl hbA hS (hin1) dL_law_553 ?_
  have hsp : (zFl [bX4 ah an am af ai aj al ag cy S, bX3 an cy Sn, bX3 am cy Sm, bX0 af cy Sf, bX3 ai cy Si, bX0 aj cy Sj, bX2 al cy Sl, bX1 ag cy Sg, bX5 az cy M]).Perm ((zFl [bX3 am cy Sm, bX0 af cy Sf, bX3 ai cy Si, bX0 aj cy Sj, bX2 al cy Sl, bX5 az cy M]) ++ ((bX4 ah an am af ai aj al ag cy S) ++ ((bX3 an cy Sn) ++ ((bX1 ag cy Sg))))) := zsp (n := 9) rfl [0, 1, 7] [2, 3, 4, 5, 6, 8] (by decide)
  have hPc : va_P D zCl ((bX4 ah an am af ai aj al ag cy S) ++ ((bX3 an cy Sn) ++ ((bX1 ag cy Sg)))) H := zP_r (zP_perm hP hsp)
  have hDc : va_D (fun q : Nat => s.heap.size ≤ q) ((bX4 ah an am af ai aj al ag cy S) ++ ((bX3 an cy Sn) ++ ((bX1 ag cy Sg)))) := zD_r (zD_perm hD hsp)
  refine zc_p (wd' := fun u => (zFl [bX4 ah an am af ai aj al ag cy (u.1), bX3 an cy Sn, bX3 am cy Sm, bX0 af cy Sf, bX3 ai cy Si, bX0 aj cy Sj, bX2 al cy Sl, bX1 ag cy (u.2), bX5 az cy M])) (va_runV (As := [.int (xs (nI i + (1 : Int32)).toNatClampNeg)]) (rest := []) ⟨hx, hb, hml, hown, htB⟩ (c_X4_loss l D cy ah an am af ai aj al ag H.size Sn (xs (nI i + (1 : Int32)).toNatClampNeg) S Sg (ok_loss hI)) (cwV 1 htB (zgV zm_620 zm_621 zm_622 zm_4 zm_623) rfl rfl rfl hd_X4_loss ⟨Nat.le_of_ble_eq_true rfl, Nat.le_of_ble_eq_true rfl⟩) ⟨zM_blind, va_recv hK hPc (ci := 4) (q0 := 0) rfl rfl, zM_pre hPc hK hN hDc⟩ rfl rfl hl.1 rfl (lv_room (Nat.le_of_ble_eq_true rfl)) dL_law_554 ⟨Nat.le_of_ble_eq_true rfl, Nat.le_of_ble_eq_true rfl⟩) hS hA hP hD hsp (fun u => zsp (n := 9) rfl [0, 1, 7] [2, 3, 4, 5, 6, 8] (by decide)) (fun u => rfl) (fun r1 u H locs h hP hD hS => ?_)
  obtain ⟨S_1, Sg_1⟩ := u
  replace hP : va_P D zCl (zFl [bX4 ah an am af ai aj al ag cy S_1, bX3 an cy Sn, bX3 am cy Sm, bX0 af cy Sf, bX3 ai cy Si, bX0 aj cy Sj, bX2 al cy Sl, bX1 ag cy Sg_1, bX5 az cy M]) H := hP
  replace hD : va_D (fun q : Nat => s.heap.size ≤ q) (zFl [bX4 ah an am af ai aj al ag cy S_1, bX3 an cy Sn, bX3 am cy Sm, bX0 af cy Sf, bX3 ai cy Si, bX0 aj cy Sj, bX2 al cy Sl, bX1 ag cy Sg_1, bX5 az cy M]) := hD
  refine lv_aload_n hx hb dL_law_557 rfl (lv_at hl 2 rfl) ?_
  refine lv_aload_n hx hb dL_law_558 rfl (lv_at hl 0 rfl) ?_
  refine lv_iload_n hx hb dL_law_559 rfl (lv_at hl 3 rfl) ?_
  refine lv_iconst (v := (1 : Int32)) hx hb dL_law_560 (by decide) ?_
  refine lv_iadd hx hb dL_law_561 ?_
  refine va_sld hx hb hX hbl hbA hS (hin1) dL_law_562 ?_
  have hsp : (zFl [bX4 ah an am af ai aj al ag cy S_1, bX3 an cy Sn, bX3 am cy Sm, bX0 af cy Sf, bX3 ai cy Si, bX0 aj cy Sj, bX2 al cy Sl, bX1 ag cy Sg_1, bX5 az cy M]).Perm ((zFl [bX4 ah an am af ai aj al ag cy S_1, bX3 an cy Sn, bX3 am cy Sm, bX0 af cy Sf, bX3 ai cy Si, bX0 aj cy Sj, bX2 al cy Sl, bX1 ag cy Sg_1]) ++ (bX5 az cy M)) := zsp (n := 9) rfl [8] [0, 1, 2, 3, 4, 5, 6, 7] (by decide)
  have hPc : va_P D zCl (bX5 az cy M) H := zP_r (zP_perm hP hsp)
  have hDc : va_D (fun q : Nat => s.heap.size ≤ q) (bX5 az cy M) := zD_r (zD_perm hD hsp)
  refine zc_p (wd' := fun u => (zFl [bX4 ah an am af ai aj al ag cy S_1, bX3 an cy Sn, bX3 am cy Sm, bX0 af cy Sf, bX3 ai cy Si, bX0 aj cy Sj, bX2 al cy Sl, bX1 ag cy Sg_1, bX5 az cy (u)])) (va_runV (As := [.int (xs (nI i + (1 : Int32)).toNatClampNeg)]) (rest := [.int r1]) ⟨hx, hb, hml, hown, htB⟩ (c_X5_loss l D cy az H.size (xs (nI i + (1 : Int32)).toNatClampNeg) M (Q := fun r' M' => r' = r1 ∧ Inv S_1 Sn Sf Si Sj Sl M') h) (cwV 1 htB (zgV zm_624 zm_625 zm_626 zm_263 zm_627) rfl rfl rfl hd_X5_loss ⟨Nat.le_of_ble_eq_true rfl, Nat.le_of_ble_eq_true rfl⟩) ⟨zM_blind, va_recv hK hPc (ci := 5) (q0 := 0) rfl rfl, zM_pre hPc hK hN hDc⟩ rfl rfl hl.1 rfl (lv_room (Nat.le_of_ble_eq_true rfl)) dL_law_563 ⟨Nat.le_of_ble_eq_true rfl, Nat.le_of_ble_eq_true rfl⟩) hS hA hP hD hsp (fun u => zsp (n := 9) rfl [8] [0, 1, 2, 3, 4, 5, 6, 7] (by decide)) (fun u => rfl) (fun r2 u H locs h hP hD hS => ?_)
  obtain ⟨M_2, eu⟩ : ∃ z, z = u := ⟨_, rfl⟩
  subst eu
  replace hP : va_P D zCl (zFl [bX4 ah an am af ai aj al ag cy S_1, bX3 an cy Sn, bX3 am cy Sm, bX0 af cy Sf, bX3 ai cy Si, bX0 aj cy Sj, bX2 al cy Sl, bX1 ag cy Sg_1, bX5 az cy M_2]) H := hP
  replace hD : va_D (fun q : Nat => s.heap.size ≤ q) (zFl [bX4 ah an am af ai aj al ag cy S_1, bX3 an cy Sn, bX3 am cy Sm, bX0 af cy Sf, bX3 ai cy Si, bX0 aj cy Sj, bX2 al cy Sl, bX1 ag cy Sg_1, bX5 az cy M_2]) := hD
  refine lv_icmp_eq (tgt := 1017) hx hb dL_law_566 (by decide) (fun _ => ?_) (fun cn => absurd h.1.symm cn)
  exact cont S_1 Sn Sm Sf Si Sj Sl Sg_1 M_2 H locs ls hP hD hS h.2 hl
set_option maxHeartbeats 4000000 in
set_option maxRecDepth 100000 in
theorem lc_15 (C : zLC p l e s m below meth c D cy b L xs ah an am af ai aj al ag az i) (hi : i + 5 ≤ L) (hL : L ≤ 2560) (cont : zLs1 p l e s m below meth c D cy b L xs ah an am af ai aj al ag az i 1017) : zLs1 p l e s m below meth c D cy b L xs ah an am af ai aj al ag az i 571 := by
  obtain ⟨⟨hx, hb, hr, hml, hown0, hts, hX, hbl, hlocks, hgv⟩, hK, hN, hC⟩ := C
  intro S Sn Sm Sf Si Sj Sl Sg M H locs ls hP hD hS hI hl
  have hown : s.vm.findClass RL = some m.cls := hown0
  have htB : ∀ w ∈ zB, w.before #[Value.ref b] s = true := fun w h => hts w (List.mem_filter.mp h).1
  have hA : ∀ q : Nat, s.heap.size ≤ q → (fun q : Nat => s.heap.size ≤ q) q := fun _ h => h
  have hbA : ¬ (fun q : Nat => s.heap.size ≤ q) b := Nat.not_le.mpr hbl
  have hin1 : vp_in (nI i + (1 : Int32)) L := by rw [show nI i + (1 : Int32) = nI (i + 1) from nI_add i 1]; exact vp_in_nI (by omega) (by omega)
  have hin2 : vp_in (nI i + (2 : Int32)) L := by rw [show nI i + (2 : Int32) = nI (i + 2) from nI_add i 2]; exact vp_in_nI (by omega) (by omega)
  have hin3 : vp_in (nI i + (3 : Int32)) L := by rw [show nI i + (3 : Int32) = nI (i + 3) from nI_add i 3]; exact vp_in_nI (by omega) (by omega)
  have hin4 : vp_in (nI i + (4 : Int32)) L := by rw [show nI i + (4 : Int32) = nI (i + 4) from nI_add i 4]; exact vp_in_nI (by omega) (by omega)
  refine lv_aload_n hx hb dL_law_571 rfl (lv_at hl 1 rfl) ?_
  have hsp : (zFl [bX4 ah an am af ai aj al ag cy S, bX3 an cy Sn, bX3 am cy Sm, bX0 af cy Sf, bX3 ai cy Si, bX0 aj cy Sj, bX2 al cy Sl, bX1 ag cy Sg, bX5 az cy M]).Perm ((zFl [bX3 am cy Sm, bX0 af cy Sf, bX3 ai cy Si, bX0 aj cy Sj, bX2 al cy Sl, bX5 az cy M]) ++ ((bX4 ah an am af ai aj al ag cy S) ++ ((bX3 an cy Sn) ++ ((bX1 ag cy Sg))))) := zsp (n := 9) rfl [0, 1, 7] [2, 3, 4, 5, 6, 8] (by decide)
  have hPc : va_P D zCl ((bX4 ah an am af ai aj al ag cy S) ++ ((bX3 an cy Sn) ++ ((bX1 ag cy Sg)))) H := zP_r (zP_perm hP hsp)
  have hDc : va_D (fun q : Nat => s.heap.size ≤ q) ((bX4 ah an am af ai aj al ag cy S) ++ ((bX3 an cy Sn) ++ ((bX1 ag cy Sg)))) := zD_r (zD_perm hD hsp)
  refine zc_p (wd' := fun u => (zFl [bX4 ah an am af ai aj al ag cy S, bX3 an cy Sn, bX3 am cy Sm, bX0 af cy Sf, bX3 ai cy Si, bX0 aj cy Sj, bX2 al cy Sl, bX1 ag cy (u), bX5 az cy M])) (va_runV (As := []) (rest := []) ⟨hx, hb, hml, hown, htB⟩ (c_X4_holds l D cy ah an am af ai aj al ag H.size S Sn Sg (ok_holds hI)) (cwV 0 htB (zgV zm_628 zm_629 zm_630 zm_4 zm_631) rfl rfl rfl hd_X4_holds ⟨Nat.le_of_ble_eq_true rfl, Nat.le_of_ble_eq_true rfl⟩) ⟨zM_blind, va_recv hK hPc (ci := 4) (q0 := 0) rfl rfl, zM_pre hPc hK hN hDc⟩ rfl rfl hl.1 rfl (lv_room (Nat.le_of_ble_eq_true rfl)) dL_law_572 ⟨Nat.le_of_ble_eq_true rfl, Nat.le_of_ble_eq_true rfl⟩) hS hA hP hD hsp (fun u => zsp (n := 9) rfl [0, 1, 7] [2, 3, 4, 5, 6, 8] (by decide)) (fun u => rfl) (fun r1 u H locs h hP hD hS => ?_)
  obtain ⟨Sg_1, eu⟩ : ∃ z, z = u := ⟨_, rfl⟩
  subst eu
  replace hP : va_P D zCl (zFl [bX4 ah an am af ai aj al ag cy S, bX3 an cy Sn, bX3 am cy Sm, bX0 af cy Sf, bX3 ai cy Si, bX0 aj cy Sj, bX2 al cy Sl, bX1 ag cy Sg_1, bX5 az cy M]) H := hP
  replace hD : va_D (fun q : Nat => s.heap.size ≤ q) (zFl [bX4 ah an am af ai aj al ag cy S, bX3 an cy Sn, bX3 am cy Sm, bX0 af cy Sf, bX3 ai cy Si, bX0 aj cy Sj, bX2 al cy Sl, bX1 ag cy Sg_1, bX5 az cy M]) := hD
  refine lv_aload_n hx hb dL_law_575 rfl (lv_at hl 2 rfl) ?_
  have hsp : (zFl [bX4 ah an am af ai aj al ag cy S, bX3 an cy Sn, bX3 am cy Sm, bX0 af cy Sf, bX3 ai cy Si, bX0 aj cy Sj, bX2 al cy Sl, bX1 ag cy Sg_1, bX5 az cy M]).Perm ((zFl [bX4 ah an am af ai aj al ag cy S, bX3 an cy Sn, bX3 am cy Sm, bX0 af cy Sf, bX3 ai cy Si, bX0 aj cy Sj, bX2 al cy Sl, bX1 ag cy Sg_1]) ++ (bX5 az cy M)) := zsp (n := 9) rfl [8] [0, 1, 2, 3, 4, 5, 6, 7] (by decide)
  have hPc : va_P D zCl (bX5 az cy M) H := zP_r (zP_perm hP hsp)
  have hDc : va_D (fun q : Nat => s.heap.size ≤ q) (bX5 az cy M) := zD_r (zD_perm hD hsp)
  refine zc_p (wd' := fun u => (zFl [bX4 ah an am af ai aj al ag cy S, bX3 an cy Sn, bX3 am cy Sm, bX0 af cy Sf, bX3 ai cy Si, bX0 aj cy Sj, bX2 al cy Sl, bX1 ag cy Sg_1, bX5 az cy (u)])) (va_runV (As := []) (rest := [.int r1]) ⟨hx, hb, hml, hown, htB⟩ (c_X5_holds l D cy az H.size M (Q := fun r' M' => r' = r1 ∧ Inv S Sn Sf Si Sj Sl M') h) (cwV 0 htB (zgV zm_632 zm_633 zm_634 zm_263 zm_635) rfl rfl rfl hd_X5_holds ⟨Nat.le_of_ble_eq_true rfl, Nat.le_of_ble_eq_true rfl⟩) ⟨zM_blind, va_recv hK hPc (ci := 5) (q0 := 0) rfl rfl, zM_pre hPc hK hN hDc⟩ rfl rfl hl.1 rfl (lv_room (Nat.le_of_ble_eq_true rfl)) dL_law_576 ⟨Nat.le_of_ble_eq_true rfl, Nat.le_of_ble_eq_true rfl⟩) hS hA hP hD hsp (fun u => zsp (n := 9) rfl [8] [0, 1, 2, 3, 4, 5, 6, 7] (by decide)) (fun u => rfl) (fun r2 u H locs h hP hD hS => ?_)
  obtain ⟨M_2, eu⟩ : ∃ z, z = u := ⟨_, rfl⟩
  subst eu
  replace hP : va_P D zCl (zFl [bX4 ah an am af ai aj al ag cy S, bX3 an cy Sn, bX3 am cy Sm, bX0 af cy Sf, bX3 ai cy Si, bX0 aj cy Sj, bX2 al cy Sl, bX1 ag cy Sg_1, bX5 az cy M_2]) H := hP
  replace hD : va_D (fun q : Nat => s.heap.size ≤ q) (zFl [bX4 ah an am af ai aj al ag cy S, bX3 an cy Sn, bX3 am cy Sm, bX0 af cy Sf, bX3 ai cy Si, bX0 aj cy Sj, bX2 al cy Sl, bX1 ag cy Sg_1, bX5 az cy M_2]) := hD
  refine lv_icmp_eq (tgt := 1017) hx hb dL_law_579 (by decide) (fun _ => ?_) (fun cn => absurd h.1.symm cn)
  exact cont S Sn Sm Sf Si Sj Sl Sg_1 M_2 H locs ls hP hD hS h.2 hl
set_option maxHeartbeats 4000000 in
set_option maxRecDepth 100000 in
theorem lc_16 (C : zLC p l e s m below meth c D cy b L xs ah an am af ai aj al ag az i) (hi : i + 5 ≤ L) (hL : L ≤ 2560) (cont : zLs1 p l e s m below meth c D cy b L xs ah an am af ai aj al ag az i 1017) : zLs1 p l e s m below meth c D cy b L xs ah an am af ai aj al ag az i 584 := by
  obtain ⟨⟨hx, hb, hr, hml, hown0, hts, hX, hbl, hlocks, hgv⟩, hK, hN, hC⟩ := C
  intro S Sn Sm Sf Si Sj Sl Sg M H locs ls hP hD hS hI hl
  have hown : s.vm.findClass RL = some m.cls := hown0
  have htB : ∀ w ∈ zB, w.before #[Value.ref b] s = true := fun w h => hts w (List.mem_filter.mp h).1
  have hA : ∀ q : Nat, s.heap.size ≤ q → (fun q : Nat => s.heap.size ≤ q) q := fun _ h => h
  have hbA : ¬ (fun q : Nat => s.heap.size ≤ q) b := Nat.not_le.mpr hbl
  have hin1 : vp_in (nI i + (1 : Int32)) L := by rw [show nI i + (1 : Int32) = nI (i + 1) from nI_add i 1]; exact vp_in_nI (by omega) (by omega)
  have hin2 : vp_in (nI i + (2 : Int32)) L := by rw [show nI i + (2 : Int32) = nI (i + 2) from nI_add i 2]; exact vp_in_nI (by omega) (by omega)
  have hin3 : vp_in (nI i + (3 : Int32)) L := by rw [show nI i + (3 : Int32) = nI (i + 3) from nI_add i 3]; exact vp_in_nI (by omega) (by omega)
  have hin4 : vp_in (nI i + (4 : Int32)) L := by rw [show nI i + (4 : Int32) = nI (i + 4) from nI_add i 4]; exact vp_in_nI (by omega) (by omega)
  refine lv_aload_n hx hb dL_law_584 rfl (lv_at hl 1 rfl) ?_
  have hsp : (zFl [bX4 ah an am af ai aj al ag cy S, bX3 an cy Sn, bX3 am cy Sm, bX0 af cy Sf, bX3 ai cy Si, bX0 aj cy Sj, bX2 al cy Sl, bX1 ag cy Sg, bX5 az cy M]).Perm ((zFl [bX3 am cy Sm, bX0 af cy Sf, bX3 ai cy Si, bX0 aj cy Sj, bX2 al cy Sl, bX5 az cy M]) ++ ((bX4 ah an am af ai aj al ag cy S) ++ ((bX3 an cy Sn) ++ ((bX1 ag cy Sg))))) := zsp (n := 9) rfl [0, 1, 7] [2, 3, 4, 5, 6, 8] (by decide)
  have hPc : va_P D zCl ((bX4 ah an am af ai aj al ag cy S) ++ ((bX3 an cy Sn) ++ ((bX1 ag cy Sg)))) H := zP_r (zP_perm hP hsp)
  have hDc : va_D (fun q : Nat => s.heap.size ≤ q) ((bX4 ah an am af ai aj al ag cy S) ++ ((bX3 an cy Sn) ++ ((bX1 ag cy Sg)))) := zD_r (zD_perm hD hsp)
  refine zc_p (wd' := fun u => (zFl [bX4 ah an am af ai aj al ag cy S, bX3 an cy Sn, bX3 am cy Sm, bX0 af cy Sf, bX3 ai cy Si, bX0 aj cy Sj, bX2 al cy Sl, bX1 ag cy (u), bX5 az cy M])) (va_runV (As := []) (rest := []) ⟨hx, hb, hml, hown, htB⟩ (c_X4_longest l D cy ah an am af ai aj al ag H.size S Sn Sg (ok_longest hI)) (cwV 0 htB (zgV zm_636 zm_637 zm_638 zm_4 zm_639) rfl rfl rfl hd_X4_longest ⟨Nat.le_of_ble_eq_true rfl, Nat.le_of_ble_eq_true rfl⟩) ⟨zM_blind, va_recv hK hPc (ci := 4) (q0 := 0) rfl rfl, zM_pre hPc hK hN hDc⟩ rfl rfl hl.1 rfl (lv_room (Nat.le_of_ble_eq_true rfl)) dL_law_585 ⟨Nat.le_of_ble_eq_true rfl, Nat.le_of_ble_eq_true rfl⟩) hS hA hP hD hsp (fun u => zsp (n := 9) rfl [0, 1, 7] [2, 3, 4, 5, 6, 8] (by decide)) (fun u => rfl) (fun r1 u H locs h hP hD hS => ?_)
  obtain ⟨Sg_1, eu⟩ : ∃ z, z = u := ⟨_, rfl⟩
  subst eu
  replace hP : va_P D zCl (zFl [bX4 ah an am af ai aj al ag cy S, bX3 an cy Sn, bX3 am cy Sm, bX0 af cy Sf, bX3 ai cy Si, bX0 aj cy Sj, bX2 al cy Sl, bX1 ag cy Sg_1, bX5 az cy M]) H := hP
  replace hD : va_D (fun q : Nat => s.heap.size ≤ q) (zFl [bX4 ah an am af ai aj al ag cy S, bX3 an cy Sn, bX3 am cy Sm, bX0 af cy Sf, bX3 ai cy Si, bX0 aj cy Sj, bX2 al cy Sl, bX1 ag cy Sg_1, bX5 az cy M]) := hD
  refine lv_aload_n hx hb dL_law_588 rfl (lv_at hl 2 rfl) ?_
  have hsp : (zFl [bX4 ah an am af ai aj al ag cy S, bX3 an cy Sn, bX3 am cy Sm, bX0 af cy Sf, bX3 ai cy Si, bX0 aj cy Sj, bX2 al cy Sl, bX1 ag cy Sg_1, bX5 az cy M]).Perm ((zFl [bX4 ah an am af ai aj al ag cy S, bX3 an cy Sn, bX3 am cy Sm, bX0 af cy Sf, bX3 ai cy Si, bX0 aj cy Sj, bX2 al cy Sl, bX1 ag cy Sg_1]) ++ (bX5 az cy M)) := zsp (n := 9) rfl [8] [0, 1, 2, 3, 4, 5, 6, 7] (by decide)
  have hPc : va_P D zCl (bX5 az cy M) H := zP_r (zP_perm hP hsp)
  have hDc : va_D (fun q : Nat => s.heap.size ≤ q) (bX5 az cy M) := zD_r (zD_perm hD hsp)
  refine zc_p (wd' := fun u => (zFl [bX4 ah an am af ai aj al ag cy S, bX3 an cy Sn, bX3 am cy Sm, bX0 af cy Sf, bX3 ai cy Si, bX0 aj cy Sj, bX2 al cy Sl, bX1 ag cy Sg_1, bX5 az cy (u)])) (va_runV (As := []) (rest := [.int r1]) ⟨hx, hb, hml, hown, htB⟩ (c_X5_longest l D cy az H.size M (Q := fun r' M' => r' = r1 ∧ Inv S Sn Sf Si Sj Sl M') h) (cwV 0 htB (zgV zm_640 zm_641 zm_642 zm_263 zm_643) rfl rfl rfl hd_X5_longest ⟨Nat.le_of_ble_eq_true rfl, Nat.le_of_ble_eq_true rfl⟩) ⟨zM_blind, va_recv hK hPc (ci := 5) (q0 := 0) rfl rfl, zM_pre hPc hK hN hDc⟩ rfl rfl hl.1 rfl (lv_room (Nat.le_of_ble_eq_true rfl)) dL_law_589 ⟨Nat.le_of_ble_eq_true rfl, Nat.le_of_ble_eq_true rfl⟩) hS hA hP hD hsp (fun u => zsp (n := 9) rfl [8] [0, 1, 2, 3, 4, 5, 6, 7] (by decide)) (fun u => rfl) (fun r2 u H locs h hP hD hS => ?_)
  obtain ⟨M_2, eu⟩ : ∃ z, z = u := ⟨_, rfl⟩
  subst eu
  replace hP : va_P D zCl (zFl [bX4 ah an am af ai aj al ag cy S, bX3 an cy Sn, bX3 am cy Sm, bX0 af cy Sf, bX3 ai cy Si, bX0 aj cy Sj, bX2 al cy Sl, bX1 ag cy Sg_1, bX5 az cy M_2]) H := hP
  replace hD : va_D (fun q : Nat => s.heap.size ≤ q) (zFl [bX4 ah an am af ai aj al ag cy S, bX3 an cy Sn, bX3 am cy Sm, bX0 af cy Sf, bX3 ai cy Si, bX0 aj cy Sj, bX2 al cy Sl, bX1 ag cy Sg_1, bX5 az cy M_2]) := hD
  refine lv_icmp_eq (tgt := 1017) hx hb dL_law_592 (by decide) (fun _ => ?_) (fun cn => absurd h.1.symm cn)
  exact cont S Sn Sm Sf Si Sj Sl Sg_1 M_2 H locs ls hP hD hS h.2 hl
set_option maxHeartbeats 4000000 in
set_option maxRecDepth 100000 in
theorem lc_17 (C : zLC p l e s m below meth c D cy b L xs ah an am af ai aj al ag az i) (hi : i + 5 ≤ L) (hL : L ≤ 2560) (cont : zLs1 p l e s m below meth c D cy b L xs ah an am af ai aj al ag az i 1017) : zLs1 p l e s m below meth c D cy b L xs ah an am af ai aj al ag az i 597 := by
  obtain ⟨⟨hx, hb, hr, hml, hown0, hts, hX, hbl, hlocks, hgv⟩, hK, hN, hC⟩ := C
  intro S Sn Sm Sf Si Sj Sl Sg M H locs ls hP hD hS hI hl
  have hown : s.vm.findClass RL = some m.cls := hown0
  have htB : ∀ w ∈ zB, w.before #[Value.ref b] s = true := fun w h => hts w (List.mem_filter.mp h).1
  have hA : ∀ q : Nat, s.heap.size ≤ q → (fun q : Nat => s.heap.size ≤ q) q := fun _ h => h
  have hbA : ¬ (fun q : Nat => s.heap.size ≤ q) b := Nat.not_le.mpr hbl
  have hin1 : vp_in (nI i + (1 : Int32)) L := by rw [show nI i + (1 : Int32) = nI (i + 1) from nI_add i 1]; exact vp_in_nI (by omega) (by omega)
  have hin2 : vp_in (nI i + (2 : Int32)) L := by rw [show nI i + (2 : Int32) = nI (i + 2) from nI_add i 2]; exact vp_in_nI (by omega) (by omega)
  have hin3 : vp_in (nI i + (3 : Int32)) L := by rw [show nI i + (3 : Int32) = nI (i + 3) from nI_add i 3]; exact vp_in_nI (by omega) (by omega)
  have hin4 : vp_in (nI i + (4 : Int32)) L := by rw [show nI i + (4 : Int32) = nI (i + 4) from nI_add i 4]; exact vp_in_nI (by omega) (by omega)
  refine lv_aload_n hx hb dL_law_597 rfl (lv_at hl 1 rfl) ?_
  have hsp : (zFl [bX4 ah an am af ai aj al ag cy S, bX3 an cy Sn, bX3 am cy Sm, bX0 af cy Sf, bX3 ai cy Si, bX0 aj cy Sj, bX2 al cy Sl, bX1 ag cy Sg, bX5 az cy M]).Perm ((zFl [bX3 am cy Sm, bX0 af cy Sf, bX3 ai cy Si, bX0 aj cy Sj, bX2 al cy Sl, bX5 az cy M]) ++ ((bX4 ah an am af ai aj al ag cy S) ++ ((bX3 an cy Sn) ++ ((bX1 ag cy Sg))))) := zsp (n := 9) rfl [0, 1, 7] [2, 3, 4, 5, 6, 8] (by decide)
  have hPc : va_P D zCl ((bX4 ah an am af ai aj al ag cy S) ++ ((bX3 an cy Sn) ++ ((bX1 ag cy Sg)))) H := zP_r (zP_perm hP hsp)
  have hDc : va_D (fun q : Nat => s.heap.size ≤ q) ((bX4 ah an am af ai aj al ag cy S) ++ ((bX3 an cy Sn) ++ ((bX1 ag cy Sg)))) := zD_r (zD_perm hD hsp)
  refine zc_p (wd' := fun u => (zFl [bX4 ah an am af ai aj al ag cy S, bX3 an cy Sn, bX3 am cy Sm, bX0 af cy Sf, bX3 ai cy Si, bX0 aj cy Sj, bX2 al cy Sl, bX1 ag cy (u), bX5 az cy M])) (va_runV (As := []) (rest := []) ⟨hx, hb, hml, hown, htB⟩ (c_X4_away l D cy ah an am af ai aj al ag H.size S Sn Sg (ok_away hI)) (cwV 0 htB (zgV zm_644 zm_645 zm_646 zm_4 zm_647) rfl rfl rfl hd_X4_away ⟨Nat.le_of_ble_eq_true rfl, Nat.le_of_ble_eq_true rfl⟩) ⟨zM_blind, va_recv hK hPc (ci := 4) (q0 := 0) rfl rfl, zM_pre hPc hK hN hDc⟩ rfl rfl hl.1 rfl (lv_room (Nat.le_of_ble_eq_true rfl)) dL_law_598 ⟨Nat.le_of_ble_eq_true rfl, Nat.le_of_ble_eq_true rfl⟩) hS hA hP hD hsp (fun u => zsp (n := 9) rfl [0, 1, 7] [2, 3, 4, 5, 6, 8] (by decide)) (fun u => rfl) (fun r1 u H locs h hP hD hS => ?_)
  obtain ⟨Sg_1, eu⟩ : ∃ z, z = u := ⟨_, rfl⟩
  subst eu
  replace hP : va_P D zCl (zFl [bX4 ah an am af ai aj al ag cy S, bX3 an cy Sn, bX3 am cy Sm, bX0 af cy Sf, bX3 ai cy Si, bX0 aj cy Sj, bX2 al cy Sl, bX1 ag cy Sg_1, bX5 az cy M]) H := hP
  replace hD : va_D (fun q : Nat => s.heap.size ≤ q) (zFl [bX4 ah an am af ai aj al ag cy S, bX3 an cy Sn, bX3 am cy Sm, bX0 af cy Sf, bX3 ai cy Si, bX0 aj cy Sj, bX2 al cy Sl, bX1 ag cy Sg_1, bX5 az cy M]) := hD
  refine lv_aload_n hx hb dL_law_601 rfl (lv_at hl 2 rfl) ?_
  have hsp : (zFl [bX4 ah an am af ai aj al ag cy S, bX3 an cy Sn, bX3 am cy Sm, bX0 af cy Sf, bX3 ai cy Si, bX0 aj cy Sj, bX2 al cy Sl, bX1 ag cy Sg_1, bX5 az cy M]).Perm ((zFl [bX4 ah an am af ai aj al ag cy S, bX3 an cy Sn, bX3 am cy Sm, bX0 af cy Sf, bX3 ai cy Si, bX0 aj cy Sj, bX2 al cy Sl, bX1 ag cy Sg_1]) ++ (bX5 az cy M)) := zsp (n := 9) rfl [8] [0, 1, 2, 3, 4, 5, 6, 7] (by decide)
  have hPc : va_P D zCl (bX5 az cy M) H := zP_r (zP_perm hP hsp)
  have hDc : va_D (fun q : Nat => s.heap.size ≤ q) (bX5 az cy M) := zD_r (zD_perm hD hsp)
  refine zc_p (wd' := fun u => (zFl [bX4 ah an am af ai aj al ag cy S, bX3 an cy Sn, bX3 am cy Sm, bX0 af cy Sf, bX3 ai cy Si, bX0 aj cy Sj, bX2 al cy Sl, bX1 ag cy Sg_1, bX5 az cy (u)])) (va_runV (As := []) (rest := [.int r1]) ⟨hx, hb, hml, hown, htB⟩ (c_X5_away l D cy az H.size M (Q := fun r' M' => r' = r1 ∧ Inv S Sn Sf Si Sj Sl M') h) (cwV 0 htB (zgV zm_648 zm_649 zm_650 zm_263 zm_651) rfl rfl rfl hd_X5_away ⟨Nat.le_of_ble_eq_true rfl, Nat.le_of_ble_eq_true rfl⟩) ⟨zM_blind, va_recv hK hPc (ci := 5) (q0 := 0) rfl rfl, zM_pre hPc hK hN hDc⟩ rfl rfl hl.1 rfl (lv_room (Nat.le_of_ble_eq_true rfl)) dL_law_602 ⟨Nat.le_of_ble_eq_true rfl, Nat.le_of_ble_eq_true rfl⟩) hS hA hP hD hsp (fun u => zsp (n := 9) rfl [8] [0, 1, 2, 3, 4, 5, 6, 7] (by decide)) (fun u => rfl) (fun r2 u H locs h hP hD hS => ?_)
  obtain ⟨M_2, eu⟩ : ∃ z, z = u := ⟨_, rfl⟩
  subst eu
  replace hP : va_P D zCl (zFl [bX4 ah an am af ai aj al ag cy S, bX3 an cy Sn, bX3 am cy Sm, bX0 af cy Sf, bX3 ai cy Si, bX0 aj cy Sj, bX2 al cy Sl, bX1 ag cy Sg_1, bX5 az cy M_2]) H := hP
  replace hD : va_D (fun q : Nat => s.heap.size ≤ q) (zFl [bX4 ah an am af ai aj al ag cy S, bX3 an cy Sn, bX3 am cy Sm, bX0 af cy Sf, bX3 ai cy Si, bX0 aj cy Sj, bX2 al cy Sl, bX1 ag cy Sg_1, bX5 az cy M_2]) := hD
  refine lv_icmp_eq (tgt := 1017) hx hb dL_law_605 (by decide) (fun _ => ?_) (fun cn => absurd h.1.symm cn)
  exact cont S Sn Sm Sf Si Sj Sl Sg_1 M_2 H locs ls hP hD hS h.2 hl
set_option maxHeartbeats 4000000 in
set_option maxRecDepth 100000 in
theorem lc_18 (C : zLC p l e s m below meth c D cy b L xs ah an am af ai aj al ag az i) (hi : i + 5 ≤ L) (hL : L ≤ 2560) (cont : zLs1 p l e s m below meth c D cy b L xs ah an am af ai aj al ag az i 1017) : zLs1 p l e s m below meth c D cy b L xs ah an am af ai aj al ag az i 610 := by
  obtain ⟨⟨hx, hb, hr, hml, hown0, hts, hX, hbl, hlocks, hgv⟩, hK, hN, hC⟩ := C
  intro S Sn Sm Sf Si Sj Sl Sg M H locs ls hP hD hS hI hl
  have hown : s.vm.findClass RL = some m.cls := hown0
  have htB : ∀ w ∈ zB, w.before #[Value.ref b] s = true := fun w h => hts w (List.mem_filter.mp h).1
  have hA : ∀ q : Nat, s.heap.size ≤ q → (fun q : Nat => s.heap.size ≤ q) q := fun _ h => h
  have hbA : ¬ (fun q : Nat => s.heap.size ≤ q) b := Nat.not_le.mpr hbl
  have hin1 : vp_in (nI i + (1 : Int32)) L := by rw [show nI i + (1 : Int32) = nI (i + 1) from nI_add i 1]; exact vp_in_nI (by omega) (by omega)
  have hin2 : vp_in (nI i + (2 : Int32)) L := by rw [show nI i + (2 : Int32) = nI (i + 2) from nI_add i 2]; exact vp_in_nI (by omega) (by omega)
  have hin3 : vp_in (nI i + (3 : Int32)) L := by rw [show nI i + (3 : Int32) = nI (i + 3) from nI_add i 3]; exact vp_in_nI (by omega) (by omega)
  have hin4 : vp_in (nI i + (4 : Int32)) L := by rw [show nI i + (4 : Int32) = nI (i + 4) from nI_add i 4]; exact vp_in_nI (by omega) (by omega)
  refine lv_aload_n hx hb dL_law_610 rfl (lv_at hl 1 rfl) ?_
  have hsp : (zFl [bX4 ah an am af ai aj al ag cy S, bX3 an cy Sn, bX3 am cy Sm, bX0 af cy Sf, bX3 ai cy Si, bX0 aj cy Sj, bX2 al cy Sl, bX1 ag cy Sg, bX5 az cy M]).Perm ((zFl [bX3 am cy Sm, bX0 af cy Sf, bX3 ai cy Si, bX0 aj cy Sj, bX2 al cy Sl, bX5 az cy M]) ++ ((bX4 ah an am af ai aj al ag cy S) ++ ((bX3 an cy Sn) ++ ((bX1 ag cy Sg))))) := zsp (n := 9) rfl [0, 1, 7] [2, 3, 4, 5, 6, 8] (by decide)
  have hPc : va_P D zCl ((bX4 ah an am af ai aj al ag cy S) ++ ((bX3 an cy Sn) ++ ((bX1 ag cy Sg)))) H := zP_r (zP_perm hP hsp)
  have hDc : va_D (fun q : Nat => s.heap.size ≤ q) ((bX4 ah an am af ai aj al ag cy S) ++ ((bX3 an cy Sn) ++ ((bX1 ag cy Sg)))) := zD_r (zD_perm hD hsp)
  refine zc_p (wd' := fun u => (zFl [bX4 ah an am af ai aj al ag cy S, bX3 an cy Sn, bX3 am cy Sm, bX0 af cy Sf, bX3 ai cy Si, bX0 aj cy Sj, bX2 al cy Sl, bX1 ag cy (u), bX5 az cy M])) (va_runV (As := []) (rest := []) ⟨hx, hb, hml, hown, htB⟩ (c_X4_open l D cy ah an am af ai aj al ag H.size S Sn Sg (ok_open hI)) (cwV 0 htB (zgV zm_652 zm_653 zm_654 zm_4 zm_655) rfl rfl rfl hd_X4_open ⟨Nat.le_of_ble_eq_true rfl, Nat.le_of_ble_eq_true rfl⟩) ⟨zM_blind, va_recv hK hPc (ci := 4) (q0 := 0) rfl rfl, zM_pre hPc hK hN hDc⟩ rfl rfl hl.1 rfl (lv_room (Nat.le_of_ble_eq_true rfl)) dL_law_611 ⟨Nat.le_of_ble_eq_true rfl, Nat.le_of_ble_eq_true rfl⟩) hS hA hP hD hsp (fun u => zsp (n := 9) rfl [0, 1, 7] [2, 3, 4, 5, 6, 8] (by decide)) (fun u => rfl) (fun r1 u H locs h hP hD hS => ?_)
  obtain ⟨Sg_1, eu⟩ : ∃ z, z = u := ⟨_, rfl⟩
  subst eu
  replace hP : va_P D zCl (zFl [bX4 ah an am af ai aj al ag cy S, bX3 an cy Sn, bX3 am cy Sm, bX0 af cy Sf, bX3 ai cy Si, bX0 aj cy Sj, bX2 al cy Sl, bX1 ag cy Sg_1, bX5 az cy M]) H := hP
  replace hD : va_D (fun q : Nat => s.heap.size ≤ q) (zFl [bX4 ah an am af ai aj al ag cy S, bX3 an cy Sn, bX3 am cy Sm, bX0 af cy Sf, bX3 ai cy Si, bX0 aj cy Sj, bX2 al cy Sl, bX1 ag cy Sg_1, bX5 az cy M]) := hD
  refine lv_aload_n hx hb dL_law_614 rfl (lv_at hl 2 rfl) ?_
  have hsp : (zFl [bX4 ah an am af ai aj al ag cy S, bX3 an cy Sn, bX3 am cy Sm, bX0 af cy Sf, bX3 ai cy Si, bX0 aj cy Sj, bX2 al cy Sl, bX1 ag cy Sg_1, bX5 az cy M]).Perm ((zFl [bX4 ah an am af ai aj al ag cy S, bX3 an cy Sn, bX3 am cy Sm, bX0 af cy Sf, bX3 ai cy Si, bX0 aj cy Sj, bX2 al cy Sl, bX1 ag cy Sg_1]) ++ (bX5 az cy M)) := zsp (n := 9) rfl [8] [0, 1, 2, 3, 4, 5, 6, 7] (by decide)
  have hPc : va_P D zCl (bX5 az cy M) H := zP_r (zP_perm hP hsp)
  have hDc : va_D (fun q : Nat => s.heap.size ≤ q) (bX5 az cy M) := zD_r (zD_perm hD hsp)
  refine zc_p (wd' := fun u => (zFl [bX4 ah an am af ai aj al ag cy S, bX3 an cy Sn, bX3 am cy Sm, bX0 af cy Sf, bX3 ai cy Si, bX0 aj cy Sj, bX2 al cy Sl, bX1 ag cy Sg_1, bX5 az cy (u)])) (va_runV (As := []) (rest := [.int r1]) ⟨hx, hb, hml, hown, htB⟩ (c_X5_open l D cy az H.size M (Q := fun r' M' => r' = r1 ∧ Inv S Sn Sf Si Sj Sl M') h) (cwV 0 htB (zgV zm_656 zm_657 zm_658 zm_263 zm_659) rfl rfl rfl hd_X5_open ⟨Nat.le_of_ble_eq_true rfl, Nat.le_of_ble_eq_true rfl⟩) ⟨zM_blind, va_recv hK hPc (ci := 5) (q0 := 0) rfl rfl, zM_pre hPc hK hN hDc⟩ rfl rfl hl.1 rfl (lv_room (Nat.le_of_ble_eq_true rfl)) dL_law_615 ⟨Nat.le_of_ble_eq_true rfl, Nat.le_of_ble_eq_true rfl⟩) hS hA hP hD hsp (fun u => zsp (n := 9) rfl [8] [0, 1, 2, 3, 4, 5, 6, 7] (by decide)) (fun u => rfl) (fun r2 u H locs h hP hD hS => ?_)
  obtain ⟨M_2, eu⟩ : ∃ z, z = u := ⟨_, rfl⟩
  subst eu
  replace hP : va_P D zCl (zFl [bX4 ah an am af ai aj al ag cy S, bX3 an cy Sn, bX3 am cy Sm, bX0 af cy Sf, bX3 ai cy Si, bX0 aj cy Sj, bX2 al cy Sl, bX1 ag cy Sg_1, bX5 az cy M_2]) H := hP
  replace hD : va_D (fun q : Nat => s.heap.size ≤ q) (zFl [bX4 ah an am af ai aj al ag cy S, bX3 an cy Sn, bX3 am cy Sm, bX0 af cy Sf, bX3 ai cy Si, bX0 aj cy Sj, bX2 al cy Sl, bX1 ag cy Sg_1, bX5 az cy M_2]) := hD
  refine lv_icmp_eq (tgt := 1017) hx hb dL_law_618 (by decide) (fun _ => ?_) (fun cn => absurd h.1.symm cn)
  exact cont S Sn Sm Sf Si Sj Sl Sg_1 M_2 H locs ls hP hD hS h.2 hl
set_option maxHeartbeats 4000000 in
set_option maxRecDepth 100000 in
theorem lc_19 (C : zLC p l e s m below meth c D cy b L xs ah an am af ai aj al ag az i) (hi : i + 5 ≤ L) (hL : L ≤ 2560) (cont : zLs1 p l e s m below meth c D cy b L xs ah an am af ai aj al ag az i 1017) : zLs1 p l e s m below meth c D cy b L xs ah an am af ai aj al ag az i 623 := by
  obtain ⟨⟨hx, hb, hr, hml, hown0, hts, hX, hbl, hlocks, hgv⟩, hK, hN, hC⟩ := C
  intro S Sn Sm Sf Si Sj Sl Sg M H locs ls hP hD hS hI hl
  have hown : s.vm.findClass RL = some m.cls := hown0
  have htB : ∀ w ∈ zB, w.before #[Value.ref b] s = true := fun w h => hts w (List.mem_filter.mp h).1
  have hA : ∀ q : Nat, s.heap.size ≤ q → (fun q : Nat => s.heap.size ≤ q) q := fun _ h => h
  have hbA : ¬ (fun q : Nat => s.heap.size ≤ q) b := Nat.not_le.mpr hbl
  have hin1 : vp_in (nI i + (1 : Int32)) L := by rw [show nI i + (1 : Int32) = nI (i + 1) from nI_add i 1]; exact vp_in_nI (by omega) (by omega)
  have hin2 : vp_in (nI i + (2 : Int32)) L := by rw [show nI i + (2 : Int32) = nI (i + 2) from nI_add i 2]; exact vp_in_nI (by omega) (by omega)
  have hin3 : vp_in (nI i + (3 : Int32)) L := by rw [show nI i + (3 : Int32) = nI (i + 3) from nI_add i 3]; exact vp_in_nI (by omega) (by omega)
  have hin4 : vp_in (nI i + (4 : Int32)) L := by rw [show nI i + (4 : Int32) = nI (i + 4) from nI_add i 4]; exact vp_in_nI (by omega) (by omega)
  refine lv_aload_n hx hb dL_law_623 rfl (lv_at hl 1 rfl) ?_
  have hsp : (zFl [bX4 ah an am af ai aj al ag cy S, bX3 an cy Sn, bX3 am cy Sm, bX0 af cy Sf, bX3 ai cy Si, bX0 aj cy Sj, bX2 al cy Sl, bX1 ag cy Sg, bX5 az cy M]).Perm ((zFl [bX3 am cy Sm, bX0 af cy Sf, bX3 ai cy Si, bX0 aj cy Sj, bX2 al cy Sl, bX5 az cy M]) ++ ((bX4 ah an am af ai aj al ag cy S) ++ ((bX3 an cy Sn) ++ ((bX1 ag cy Sg))))) := zsp (n := 9) rfl [0, 1, 7] [2, 3, 4, 5, 6, 8] (by decide)
  have hPc : va_P D zCl ((bX4 ah an am af ai aj al ag cy S) ++ ((bX3 an cy Sn) ++ ((bX1 ag cy Sg)))) H := zP_r (zP_perm hP hsp)
  have hDc : va_D (fun q : Nat => s.heap.size ≤ q) ((bX4 ah an am af ai aj al ag cy S) ++ ((bX3 an cy Sn) ++ ((bX1 ag cy Sg)))) := zD_r (zD_perm hD hsp)
  refine zc_p (wd' := fun u => (zFl [bX4 ah an am af ai aj al ag cy S, bX3 an cy Sn, bX3 am cy Sm, bX0 af cy Sf, bX3 ai cy Si, bX0 aj cy Sj, bX2 al cy Sl, bX1 ag cy (u), bX5 az cy M])) (va_runV (As := []) (rest := []) ⟨hx, hb, hml, hown, htB⟩ (c_X4_coals l D cy ah an am af ai aj al ag H.size S Sn Sg (ok_coals hI)) (cwV 0 htB (zgV zm_660 zm_661 zm_662 zm_4 zm_663) rfl rfl rfl hd_X4_coals ⟨Nat.le_of_ble_eq_true rfl, Nat.le_of_ble_eq_true rfl⟩) ⟨zM_blind, va_recv hK hPc (ci := 4) (q0 := 0) rfl rfl, zM_pre hPc hK hN hDc⟩ rfl rfl hl.1 rfl (lv_room (Nat.le_of_ble_eq_true rfl)) dL_law_624 ⟨Nat.le_of_ble_eq_true rfl, Nat.le_of_ble_eq_true rfl⟩) hS hA hP hD hsp (fun u => zsp (n := 9) rfl [0, 1, 7] [2, 3, 4, 5, 6, 8] (by decide)) (fun u => rfl) (fun r1 u H locs h hP hD hS => ?_)
  obtain ⟨Sg_1, eu⟩ : ∃ z, z = u := ⟨_, rfl⟩
  subst eu
  replace hP : va_P D zCl (zFl [bX4 ah an am af ai aj al ag cy S, bX3 an cy Sn, bX3 am cy Sm, bX0 af cy Sf, bX3 ai cy Si, bX0 aj cy Sj, bX2 al cy Sl, bX1 ag cy Sg_1, bX5 az cy M]) H := hP
  replace hD : va_D (fun q : Nat => s.heap.size ≤ q) (zFl [bX4 ah an am af ai aj al ag cy S, bX3 an cy Sn, bX3 am cy Sm, bX0 af cy Sf, bX3 ai cy Si, bX0 aj cy Sj, bX2 al cy Sl, bX1 ag cy Sg_1, bX5 az cy M]) := hD
  refine lv_aload_n hx hb dL_law_627 rfl (lv_at hl 2 rfl) ?_
  have hsp : (zFl [bX4 ah an am af ai aj al ag cy S, bX3 an cy Sn, bX3 am cy Sm, bX0 af cy Sf, bX3 ai cy Si, bX0 aj cy Sj, bX2 al cy Sl, bX1 ag cy Sg_1, bX5 az cy M]).Perm ((zFl [bX4 ah an am af ai aj al ag cy S, bX3 an cy Sn, bX3 am cy Sm, bX0 af cy Sf, bX3 ai cy Si, bX0 aj cy Sj, bX2 al cy Sl, bX1 ag cy Sg_1]) ++ (bX5 az cy M)) := zsp (n := 9) rfl [8] [0, 1, 2, 3, 4, 5, 6, 7] (by decide)
  have hPc : va_P D zCl (bX5 az cy M) H := zP_r (zP_perm hP hsp)
  have hDc : va_D (fun q : Nat => s.heap.size ≤ q) (bX5 az cy M) := zD_r (zD_perm hD hsp)
  refine zc_p (wd' := fun u => (zFl [bX4 ah an am af ai aj al ag cy S, bX3 an cy Sn, bX3 am cy Sm, bX0 af cy Sf, bX3 ai cy Si, bX0 aj cy Sj, bX2 al cy Sl, bX1 ag cy Sg_1, bX5 az cy (u)])) (va_runV (As := []) (rest := [.int r1]) ⟨hx, hb, hml, hown, htB⟩ (c_X5_coals l D cy az H.size M (Q := fun r' M' => r' = r1 ∧ Inv S Sn Sf Si Sj Sl M') h) (cwV 0 htB (zgV zm_664 zm_665 zm_666 zm_263 zm_667) rfl rfl rfl hd_X5_coals ⟨Nat.le_of_ble_eq_true rfl, Nat.le_of_ble_eq_true rfl⟩) ⟨zM_blind, va_recv hK hPc (ci := 5) (q0 := 0) rfl rfl, zM_pre hPc hK hN hDc⟩ rfl rfl hl.1 rfl (lv_room (Nat.le_of_ble_eq_true rfl)) dL_law_628 ⟨Nat.le_of_ble_eq_true rfl, Nat.le_of_ble_eq_true rfl⟩) hS hA hP hD hsp (fun u => zsp (n := 9) rfl [8] [0, 1, 2, 3, 4, 5, 6, 7] (by decide)) (fun u => rfl) (fun r2 u H locs h hP hD hS => ?_)
  obtain ⟨M_2, eu⟩ : ∃ z, z = u := ⟨_, rfl⟩
  subst eu
  replace hP : va_P D zCl (zFl [bX4 ah an am af ai aj al ag cy S, bX3 an cy Sn, bX3 am cy Sm, bX0 af cy Sf, bX3 ai cy Si, bX0 aj cy Sj, bX2 al cy Sl, bX1 ag cy Sg_1, bX5 az cy M_2]) H := hP
  replace hD : va_D (fun q : Nat => s.heap.size ≤ q) (zFl [bX4 ah an am af ai aj al ag cy S, bX3 an cy Sn, bX3 am cy Sm, bX0 af cy Sf, bX3 ai cy Si, bX0 aj cy Sj, bX2 al cy Sl, bX1 ag cy Sg_1, bX5 az cy M_2]) := hD
  refine lv_icmp_eq (tgt := 1017) hx hb dL_law_631 (by decide) (fun _ => ?_) (fun cn => absurd h.1.symm cn)
  exact cont S Sn Sm Sf Si Sj Sl Sg_1 M_2 H locs ls hP hD hS h.2 hl
set_option maxHeartbeats 4000000 in
set_option maxRecDepth 100000 in
theorem lc_20 (C : zLC p l e s m below meth c D cy b L xs ah an am af ai aj al ag az i) (hi : i + 5 ≤ L) (hL : L ≤ 2560) (cont : zLs1 p l e s m below meth c D cy b L xs ah an am af ai aj al ag az i 1017) : zLs1 p l e s m below meth c D cy b L xs ah an am af ai aj al ag az i 636 := by
  obtain ⟨⟨hx, hb, hr, hml, hown0, hts, hX, hbl, hlocks, hgv⟩, hK, hN, hC⟩ := C
  intro S Sn Sm Sf Si Sj Sl Sg M H locs ls hP hD hS hI hl
  have hown : s.vm.findClass RL = some m.cls := hown0
  have htB : ∀ w ∈ zB, w.before #[Value.ref b] s = true := fun w h => hts w (List.mem_filter.mp h).1
  have hA : ∀ q : Nat, s.heap.size ≤ q → (fun q : Nat => s.heap.size ≤ q) q := fun _ h => h
  have hbA : ¬ (fun q : Nat => s.heap.size ≤ q) b := Nat.not_le.mpr hbl
  have hin1 : vp_in (nI i + (1 : Int32)) L := by rw [show nI i + (1 : Int32) = nI (i + 1) from nI_add i 1]; exact vp_in_nI (by omega) (by omega)
  have hin2 : vp_in (nI i + (2 : Int32)) L := by rw [show nI i + (2 : Int32) = nI (i + 2) from nI_add i 2]; exact vp_in_nI (by omega) (by omega)
  have hin3 : vp_in (nI i + (3 : Int32)) L := by rw [show nI i + (3 : Int32) = nI (i + 3) from nI_add i 3]; exact vp_in_nI (by omega) (by omega)
  have hin4 : vp_in (nI i + (4 : Int32)) L := by rw [show nI i + (4 : Int32) = nI (i + 4) from nI_add i 4]; exact vp_in_nI (by omega) (by omega)
  refine lv_aload_n hx hb dL_law_636 rfl (lv_at hl 1 rfl) ?_
  refine lv_aload_n hx hb dL_law_637 rfl (lv_at hl 0 rfl) ?_
  refine lv_iload_n hx hb dL_law_638 rfl (lv_at hl 3 rfl) ?_
  refine lv_iconst (v := (1 : Int32)) hx hb dL_law_639 (by decide) ?_
  refine lv_iadd hx hb dL_law_640 ?_
  refine va_sld hx hb hX hbl hbA hS (hin1) dL_law_641 ?_
  refine lv_aload_n hx hb dL_law_642 rfl (lv_at hl 0 rfl) ?_
  refine lv_iload_n hx hb dL_law_643 rfl (lv_at hl 3 rfl) ?_
  refine lv_iconst (v := (2 : Int32)) hx hb dL_law_644 (by decide) ?_
  refine lv_iadd hx hb dL_law_645 ?_
  refine va_sld hx hb hX hbl hbA hS (hin2) dL_law_646 ?_
  have hsp : (zFl [bX4 ah an am af ai aj al ag cy S, bX3 an cy Sn, bX3 am cy Sm, bX0 af cy Sf, bX3 ai cy Si, bX0 aj cy Sj, bX2 al cy Sl, bX1 ag cy Sg, bX5 az cy M]).Perm ((zFl [bX0 af cy Sf, bX3 ai cy Si, bX0 aj cy Sj, bX2 al cy Sl, bX5 az cy M]) ++ ((bX4 ah an am af ai aj al ag cy S) ++ ((bX3 an cy Sn) ++ ((bX3 am cy Sm) ++ ((bX1 ag cy Sg)))))) := zsp (n := 9) rfl [0, 1, 2, 7] [3, 4, 5, 6, 8] (by decide)
  have hPc : va_P D zCl ((bX4 ah an am af ai aj al ag cy S) ++ ((bX3 an cy Sn) ++ ((bX3 am cy Sm) ++ ((bX1 ag cy Sg))))) H := zP_r (zP_perm hP hsp)
  have hDc : va_D (fun q : Nat => s.heap.size ≤ q) ((bX4 ah an am af ai aj al ag cy S) ++ ((bX3 an cy Sn) ++ ((bX3 am cy Sm) ++ ((bX1 ag cy Sg))))) := zD_r (zD_perm hD hsp)
  refine zc_p (wd' := fun u => (zFl [bX4 ah an am af ai aj al ag cy (u.1), bX3 an cy Sn, bX3 am cy (u.2.1), bX0 af cy Sf, bX3 ai cy Si, bX0 aj cy Sj, bX2 al cy Sl, bX1 ag cy (u.2.2), bX5 az cy M])) (va_runV (As := [.int (xs (nI i + (1 : Int32)).toNatClampNeg), .int (xs (nI i + (2 : Int32)).toNatClampNeg)]) (rest := []) ⟨hx, hb, hml, hown, htB⟩ (c_X4_byOther l D cy ah an am af ai aj al ag H.size Sn (xs (nI i + (1 : Int32)).toNatClampNeg) (xs (nI i + (2 : Int32)).toNatClampNeg) S Sm Sg (ok_byOther hI)) (cwV 2 htB (zgV zm_668 zm_669 zm_670 zm_4 zm_671) rfl rfl rfl hd_X4_byOther ⟨Nat.le_of_ble_eq_true rfl, Nat.le_of_ble_eq_true rfl⟩) ⟨zM_blind, va_recv hK hPc (ci := 4) (q0 := 0) rfl rfl, zM_pre hPc hK hN hDc⟩ rfl rfl hl.1 rfl (lv_room (Nat.le_of_ble_eq_true rfl)) dL_law_647 ⟨Nat.le_of_ble_eq_true rfl, Nat.le_of_ble_eq_true rfl⟩) hS hA hP hD hsp (fun u => zsp (n := 9) rfl [0, 1, 2, 7] [3, 4, 5, 6, 8] (by decide)) (fun u => rfl) (fun r1 u H locs h hP hD hS => ?_)
  obtain ⟨S_1, Sm_1, Sg_1⟩ := u
  replace hP : va_P D zCl (zFl [bX4 ah an am af ai aj al ag cy S_1, bX3 an cy Sn, bX3 am cy Sm_1, bX0 af cy Sf, bX3 ai cy Si, bX0 aj cy Sj, bX2 al cy Sl, bX1 ag cy Sg_1, bX5 az cy M]) H := hP
  replace hD : va_D (fun q : Nat => s.heap.size ≤ q) (zFl [bX4 ah an am af ai aj al ag cy S_1, bX3 an cy Sn, bX3 am cy Sm_1, bX0 af cy Sf, bX3 ai cy Si, bX0 aj cy Sj, bX2 al cy Sl, bX1 ag cy Sg_1, bX5 az cy M]) := hD
  refine lv_aload_n hx hb dL_law_650 rfl (lv_at hl 2 rfl) ?_
  refine lv_aload_n hx hb dL_law_651 rfl (lv_at hl 0 rfl) ?_
  refine lv_iload_n hx hb dL_law_652 rfl (lv_at hl 3 rfl) ?_
  refine lv_iconst (v := (1 : Int32)) hx hb dL_law_653 (by decide) ?_
  refine lv_iadd hx hb dL_law_654 ?_
  refine va_sld hx hb hX hbl hbA hS (hin1) dL_law_655 ?_
  refine lv_aload_n hx hb dL_law_656 rfl (lv_at hl 0 rfl) ?_
  refine lv_iload_n hx hb dL_law_657 rfl (lv_at hl 3 rfl) ?_
  refine lv_iconst (v := (2 : Int32)) hx hb dL_law_658 (by decide) ?_
  refine lv_iadd hx hb dL_law_659 ?_
  refine va_sld hx hb hX hbl hbA hS (hin2) dL_law_660 ?_
  have hsp : (zFl [bX4 ah an am af ai aj al ag cy S_1, bX3 an cy Sn, bX3 am cy Sm_1, bX0 af cy Sf, bX3 ai cy Si, bX0 aj cy Sj, bX2 al cy Sl, bX1 ag cy Sg_1, bX5 az cy M]).Perm ((zFl [bX4 ah an am af ai aj al ag cy S_1, bX3 an cy Sn, bX3 am cy Sm_1, bX0 af cy Sf, bX3 ai cy Si, bX0 aj cy Sj, bX2 al cy Sl, bX1 ag cy Sg_1]) ++ (bX5 az cy M)) := zsp (n := 9) rfl [8] [0, 1, 2, 3, 4, 5, 6, 7] (by decide)
  have hPc : va_P D zCl (bX5 az cy M) H := zP_r (zP_perm hP hsp)
  have hDc : va_D (fun q : Nat => s.heap.size ≤ q) (bX5 az cy M) := zD_r (zD_perm hD hsp)
  refine zc_p (wd' := fun u => (zFl [bX4 ah an am af ai aj al ag cy S_1, bX3 an cy Sn, bX3 am cy Sm_1, bX0 af cy Sf, bX3 ai cy Si, bX0 aj cy Sj, bX2 al cy Sl, bX1 ag cy Sg_1, bX5 az cy (u)])) (va_runV (As := [.int (xs (nI i + (1 : Int32)).toNatClampNeg), .int (xs (nI i + (2 : Int32)).toNatClampNeg)]) (rest := [.int r1]) ⟨hx, hb, hml, hown, htB⟩ (c_X5_byOther l D cy az H.size (xs (nI i + (1 : Int32)).toNatClampNeg) (xs (nI i + (2 : Int32)).toNatClampNeg) M (Q := fun r' M' => r' = r1 ∧ Inv S_1 Sn Sf Si Sj Sl M') h) (cwV 2 htB (zgV zm_672 zm_673 zm_674 zm_263 zm_675) rfl rfl rfl hd_X5_byOther ⟨Nat.le_of_ble_eq_true rfl, Nat.le_of_ble_eq_true rfl⟩) ⟨zM_blind, va_recv hK hPc (ci := 5) (q0 := 0) rfl rfl, zM_pre hPc hK hN hDc⟩ rfl rfl hl.1 rfl (lv_room (Nat.le_of_ble_eq_true rfl)) dL_law_661 ⟨Nat.le_of_ble_eq_true rfl, Nat.le_of_ble_eq_true rfl⟩) hS hA hP hD hsp (fun u => zsp (n := 9) rfl [8] [0, 1, 2, 3, 4, 5, 6, 7] (by decide)) (fun u => rfl) (fun r2 u H locs h hP hD hS => ?_)
  obtain ⟨M_2, eu⟩ : ∃ z, z = u := ⟨_, rfl⟩
  subst eu
  replace hP : va_P D zCl (zFl [bX4 ah an am af ai aj al ag cy S_1, bX3 an cy Sn, bX3 am cy Sm_1, bX0 af cy Sf, bX3 ai cy Si, bX0 aj cy Sj, bX2 al cy Sl, bX1 ag cy Sg_1, bX5 az cy M_2]) H := hP
  replace hD : va_D (fun q : Nat => s.heap.size ≤ q) (zFl [bX4 ah an am af ai aj al ag cy S_1, bX3 an cy Sn, bX3 am cy Sm_1, bX0 af cy Sf, bX3 ai cy Si, bX0 aj cy Sj, bX2 al cy Sl, bX1 ag cy Sg_1, bX5 az cy M_2]) := hD
  refine lv_icmp_eq (tgt := 1017) hx hb dL_law_664 (by decide) (fun _ => ?_) (fun cn => absurd h.1.symm cn)
  exact cont S_1 Sn Sm_1 Sf Si Sj Sl Sg_1 M_2 H locs ls hP hD hS h.2 hl
set_option maxHeartbeats 4000000 in
set_option maxRecDepth 100000 in
theorem lc_21 (C : zLC p l e s m below meth c D cy b L xs ah an am af ai aj al ag az i) (hi : i + 5 ≤ L) (hL : L ≤ 2560) (cont : zLs1 p l e s m below meth c D cy b L xs ah an am af ai aj al ag az i 1017) : zLs1 p l e s m below meth c D cy b L xs ah an am af ai aj al ag az i 669 := by
  obtain ⟨⟨hx, hb, hr, hml, hown0, hts, hX, hbl, hlocks, hgv⟩, hK, hN, hC⟩ := C
  intro S Sn Sm Sf Si Sj Sl Sg M H locs ls hP hD hS hI hl
  have hown : s.vm.findClass RL = some m.cls := hown0
  have htB : ∀ w ∈ zB, w.before #[Value.ref b] s = true := fun w h => hts w (List.mem_filter.mp h).1
  have hA : ∀ q : Nat, s.heap.size ≤ q → (fun q : Nat => s.heap.size ≤ q) q := fun _ h => h
  have hbA : ¬ (fun q : Nat => s.heap.size ≤ q) b := Nat.not_le.mpr hbl
  have hin1 : vp_in (nI i + (1 : Int32)) L := by rw [show nI i + (1 : Int32) = nI (i + 1) from nI_add i 1]; exact vp_in_nI (by omega) (by omega)
  have hin2 : vp_in (nI i + (2 : Int32)) L := by rw [show nI i + (2 : Int32) = nI (i + 2) from nI_add i 2]; exact vp_in_nI (by omega) (by omega)
  have hin3 : vp_in (nI i + (3 : Int32)) L := by rw [show nI i + (3 : Int32) = nI (i + 3) from nI_add i 3]; exact vp_in_nI (by omega) (by omega)
  have hin4 : vp_in (nI i + (4 : Int32)) L := by rw [show nI i + (4 : Int32) = nI (i + 4) from nI_add i 4]; exact vp_in_nI (by omega) (by omega)
  refine lv_aload_n hx hb dL_law_669 rfl (lv_at hl 1 rfl) ?_
  have hsp : (zFl [bX4 ah an am af ai aj al ag cy S, bX3 an cy Sn, bX3 am cy Sm, bX0 af cy Sf, bX3 ai cy Si, bX0 aj cy Sj, bX2 al cy Sl, bX1 ag cy Sg, bX5 az cy M]).Perm ((zFl [bX0 af cy Sf, bX3 ai cy Si, bX0 aj cy Sj, bX2 al cy Sl, bX5 az cy M]) ++ ((bX4 ah an am af ai aj al ag cy S) ++ ((bX3 an cy Sn) ++ ((bX3 am cy Sm) ++ ((bX1 ag cy Sg)))))) := zsp (n := 9) rfl [0, 1, 2, 7] [3, 4, 5, 6, 8] (by decide)
  have hPc : va_P D zCl ((bX4 ah an am af ai aj al ag cy S) ++ ((bX3 an cy Sn) ++ ((bX3 am cy Sm) ++ ((bX1 ag cy Sg))))) H := zP_r (zP_perm hP hsp)
  have hDc : va_D (fun q : Nat => s.heap.size ≤ q) ((bX4 ah an am af ai aj al ag cy S) ++ ((bX3 an cy Sn) ++ ((bX3 am cy Sm) ++ ((bX1 ag cy Sg))))) := zD_r (zD_perm hD hsp)
  refine zc_p (wd' := fun u => (zFl [bX4 ah an am af ai aj al ag cy S, bX3 an cy Sn, bX3 am cy (u.1), bX0 af cy Sf, bX3 ai cy Si, bX0 aj cy Sj, bX2 al cy Sl, bX1 ag cy (u.2), bX5 az cy M])) (va_runV (As := []) (rest := []) ⟨hx, hb, hml, hown, htB⟩ (c_X4_bestFar l D cy ah an am af ai aj al ag H.size S Sn Sm Sg (ok_bestFar hI)) (cwV 0 htB (zgV zm_676 zm_677 zm_678 zm_4 zm_679) rfl rfl rfl hd_X4_bestFar ⟨Nat.le_of_ble_eq_true rfl, Nat.le_of_ble_eq_true rfl⟩) ⟨zM_blind, va_recv hK hPc (ci := 4) (q0 := 0) rfl rfl, zM_pre hPc hK hN hDc⟩ rfl rfl hl.1 rfl (lv_room (Nat.le_of_ble_eq_true rfl)) dL_law_670 ⟨Nat.le_of_ble_eq_true rfl, Nat.le_of_ble_eq_true rfl⟩) hS hA hP hD hsp (fun u => zsp (n := 9) rfl [0, 1, 2, 7] [3, 4, 5, 6, 8] (by decide)) (fun u => rfl) (fun r1 u H locs h hP hD hS => ?_)
  obtain ⟨Sm_1, Sg_1⟩ := u
  replace hP : va_P D zCl (zFl [bX4 ah an am af ai aj al ag cy S, bX3 an cy Sn, bX3 am cy Sm_1, bX0 af cy Sf, bX3 ai cy Si, bX0 aj cy Sj, bX2 al cy Sl, bX1 ag cy Sg_1, bX5 az cy M]) H := hP
  replace hD : va_D (fun q : Nat => s.heap.size ≤ q) (zFl [bX4 ah an am af ai aj al ag cy S, bX3 an cy Sn, bX3 am cy Sm_1, bX0 af cy Sf, bX3 ai cy Si, bX0 aj cy Sj, bX2 al cy Sl, bX1 ag cy Sg_1, bX5 az cy M]) := hD
  refine lv_aload_n hx hb dL_law_673 rfl (lv_at hl 2 rfl) ?_
  have hsp : (zFl [bX4 ah an am af ai aj al ag cy S, bX3 an cy Sn, bX3 am cy Sm_1, bX0 af cy Sf, bX3 ai cy Si, bX0 aj cy Sj, bX2 al cy Sl, bX1 ag cy Sg_1, bX5 az cy M]).Perm ((zFl [bX4 ah an am af ai aj al ag cy S, bX3 an cy Sn, bX3 am cy Sm_1, bX0 af cy Sf, bX3 ai cy Si, bX0 aj cy Sj, bX2 al cy Sl, bX1 ag cy Sg_1]) ++ (bX5 az cy M)) := zsp (n := 9) rfl [8] [0, 1, 2, 3, 4, 5, 6, 7] (by decide)
  have hPc : va_P D zCl (bX5 az cy M) H := zP_r (zP_perm hP hsp)
  have hDc : va_D (fun q : Nat => s.heap.size ≤ q) (bX5 az cy M) := zD_r (zD_perm hD hsp)
  refine zc_p (wd' := fun u => (zFl [bX4 ah an am af ai aj al ag cy S, bX3 an cy Sn, bX3 am cy Sm_1, bX0 af cy Sf, bX3 ai cy Si, bX0 aj cy Sj, bX2 al cy Sl, bX1 ag cy Sg_1, bX5 az cy (u)])) (va_runV (As := []) (rest := [.int r1]) ⟨hx, hb, hml, hown, htB⟩ (c_X5_bestFar l D cy az H.size M (Q := fun r' M' => r' = r1 ∧ Inv S Sn Sf Si Sj Sl M') h) (cwV 0 htB (zgV zm_680 zm_681 zm_682 zm_263 zm_683) rfl rfl rfl hd_X5_bestFar ⟨Nat.le_of_ble_eq_true rfl, Nat.le_of_ble_eq_true rfl⟩) ⟨zM_blind, va_recv hK hPc (ci := 5) (q0 := 0) rfl rfl, zM_pre hPc hK hN hDc⟩ rfl rfl hl.1 rfl (lv_room (Nat.le_of_ble_eq_true rfl)) dL_law_674 ⟨Nat.le_of_ble_eq_true rfl, Nat.le_of_ble_eq_true rfl⟩) hS hA hP hD hsp (fun u => zsp (n := 9) rfl [8] [0, 1, 2, 3, 4, 5, 6, 7] (by decide)) (fun u => rfl) (fun r2 u H locs h hP hD hS => ?_)
  obtain ⟨M_2, eu⟩ : ∃ z, z = u := ⟨_, rfl⟩
  subst eu
  replace hP : va_P D zCl (zFl [bX4 ah an am af ai aj al ag cy S, bX3 an cy Sn, bX3 am cy Sm_1, bX0 af cy Sf, bX3 ai cy Si, bX0 aj cy Sj, bX2 al cy Sl, bX1 ag cy Sg_1, bX5 az cy M_2]) H := hP
  replace hD : va_D (fun q : Nat => s.heap.size ≤ q) (zFl [bX4 ah an am af ai aj al ag cy S, bX3 an cy Sn, bX3 am cy Sm_1, bX0 af cy Sf, bX3 ai cy Si, bX0 aj cy Sj, bX2 al cy Sl, bX1 ag cy Sg_1, bX5 az cy M_2]) := hD
  refine lv_icmp_eq (tgt := 1017) hx hb dL_law_677 (by decide) (fun _ => ?_) (fun cn => absurd h.1.symm cn)
  exact cont S Sn Sm_1 Sf Si Sj Sl Sg_1 M_2 H locs ls hP hD hS h.2 hl
set_option maxHeartbeats 4000000 in
set_option maxRecDepth 100000 in
theorem lc_22 (C : zLC p l e s m below meth c D cy b L xs ah an am af ai aj al ag az i) (hi : i + 5 ≤ L) (hL : L ≤ 2560) (cont : zLs1 p l e s m below meth c D cy b L xs ah an am af ai aj al ag az i 1017) : zLs1 p l e s m below meth c D cy b L xs ah an am af ai aj al ag az i 682 := by
  obtain ⟨⟨hx, hb, hr, hml, hown0, hts, hX, hbl, hlocks, hgv⟩, hK, hN, hC⟩ := C
  intro S Sn Sm Sf Si Sj Sl Sg M H locs ls hP hD hS hI hl
  have hown : s.vm.findClass RL = some m.cls := hown0
  have htB : ∀ w ∈ zB, w.before #[Value.ref b] s = true := fun w h => hts w (List.mem_filter.mp h).1
  have hA : ∀ q : Nat, s.heap.size ≤ q → (fun q : Nat => s.heap.size ≤ q) q := fun _ h => h
  have hbA : ¬ (fun q : Nat => s.heap.size ≤ q) b := Nat.not_le.mpr hbl
  have hin1 : vp_in (nI i + (1 : Int32)) L := by rw [show nI i + (1 : Int32) = nI (i + 1) from nI_add i 1]; exact vp_in_nI (by omega) (by omega)
  have hin2 : vp_in (nI i + (2 : Int32)) L := by rw [show nI i + (2 : Int32) = nI (i + 2) from nI_add i 2]; exact vp_in_nI (by omega) (by omega)
  have hin3 : vp_in (nI i + (3 : Int32)) L := by rw [show nI i + (3 : Int32) = nI (i + 3) from nI_add i 3]; exact vp_in_nI (by omega) (by omega)
  have hin4 : vp_in (nI i + (4 : Int32)) L := by rw [show nI i + (4 : Int32) = nI (i + 4) from nI_add i 4]; exact vp_in_nI (by omega) (by omega)
  refine lv_aload_n hx hb dL_law_682 rfl (lv_at hl 1 rfl) ?_
  have hsp : (zFl [bX4 ah an am af ai aj al ag cy S, bX3 an cy Sn, bX3 am cy Sm, bX0 af cy Sf, bX3 ai cy Si, bX0 aj cy Sj, bX2 al cy Sl, bX1 ag cy Sg, bX5 az cy M]).Perm ((zFl [bX0 af cy Sf, bX3 ai cy Si, bX0 aj cy Sj, bX2 al cy Sl, bX5 az cy M]) ++ ((bX4 ah an am af ai aj al ag cy S) ++ ((bX3 an cy Sn) ++ ((bX3 am cy Sm) ++ ((bX1 ag cy Sg)))))) := zsp (n := 9) rfl [0, 1, 2, 7] [3, 4, 5, 6, 8] (by decide)
  have hPc : va_P D zCl ((bX4 ah an am af ai aj al ag cy S) ++ ((bX3 an cy Sn) ++ ((bX3 am cy Sm) ++ ((bX1 ag cy Sg))))) H := zP_r (zP_perm hP hsp)
  have hDc : va_D (fun q : Nat => s.heap.size ≤ q) ((bX4 ah an am af ai aj al ag cy S) ++ ((bX3 an cy Sn) ++ ((bX3 am cy Sm) ++ ((bX1 ag cy Sg))))) := zD_r (zD_perm hD hsp)
  refine zc_p (wd' := fun u => (zFl [bX4 ah an am af ai aj al ag cy S, bX3 an cy Sn, bX3 am cy (u.1), bX0 af cy Sf, bX3 ai cy Si, bX0 aj cy Sj, bX2 al cy Sl, bX1 ag cy (u.2), bX5 az cy M])) (va_runV (As := []) (rest := []) ⟨hx, hb, hml, hown, htB⟩ (c_X4_bestCustom l D cy ah an am af ai aj al ag H.size S Sn Sm Sg (ok_bestCustom hI)) (cwV 0 htB (zgV zm_684 zm_685 zm_686 zm_4 zm_687) rfl rfl rfl hd_X4_bestCustom ⟨Nat.le_of_ble_eq_true rfl, Nat.le_of_ble_eq_true rfl⟩) ⟨zM_blind, va_recv hK hPc (ci := 4) (q0 := 0) rfl rfl, zM_pre hPc hK hN hDc⟩ rfl rfl hl.1 rfl (lv_room (Nat.le_of_ble_eq_true rfl)) dL_law_683 ⟨Nat.le_of_ble_eq_true rfl, Nat.le_of_ble_eq_true rfl⟩) hS hA hP hD hsp (fun u => zsp (n := 9) rfl [0, 1, 2, 7] [3, 4, 5, 6, 8] (by decide)) (fun u => rfl) (fun r1 u H locs h hP hD hS => ?_)
  obtain ⟨Sm_1, Sg_1⟩ := u
  replace hP : va_P D zCl (zFl [bX4 ah an am af ai aj al ag cy S, bX3 an cy Sn, bX3 am cy Sm_1, bX0 af cy Sf, bX3 ai cy Si, bX0 aj cy Sj, bX2 al cy Sl, bX1 ag cy Sg_1, bX5 az cy M]) H := hP
  replace hD : va_D (fun q : Nat => s.heap.size ≤ q) (zFl [bX4 ah an am af ai aj al ag cy S, bX3 an cy Sn, bX3 am cy Sm_1, bX0 af cy Sf, bX3 ai cy Si, bX0 aj cy Sj, bX2 al cy Sl, bX1 ag cy Sg_1, bX5 az cy M]) := hD
  refine lv_aload_n hx hb dL_law_686 rfl (lv_at hl 2 rfl) ?_
  have hsp : (zFl [bX4 ah an am af ai aj al ag cy S, bX3 an cy Sn, bX3 am cy Sm_1, bX0 af cy Sf, bX3 ai cy Si, bX0 aj cy Sj, bX2 al cy Sl, bX1 ag cy Sg_1, bX5 az cy M]).Perm ((zFl [bX4 ah an am af ai aj al ag cy S, bX3 an cy Sn, bX3 am cy Sm_1, bX0 af cy Sf, bX3 ai cy Si, bX0 aj cy Sj, bX2 al cy Sl, bX1 ag cy Sg_1]) ++ (bX5 az cy M)) := zsp (n := 9) rfl [8] [0, 1, 2, 3, 4, 5, 6, 7] (by decide)
  have hPc : va_P D zCl (bX5 az cy M) H := zP_r (zP_perm hP hsp)
  have hDc : va_D (fun q : Nat => s.heap.size ≤ q) (bX5 az cy M) := zD_r (zD_perm hD hsp)
  refine zc_p (wd' := fun u => (zFl [bX4 ah an am af ai aj al ag cy S, bX3 an cy Sn, bX3 am cy Sm_1, bX0 af cy Sf, bX3 ai cy Si, bX0 aj cy Sj, bX2 al cy Sl, bX1 ag cy Sg_1, bX5 az cy (u)])) (va_runV (As := []) (rest := [.int r1]) ⟨hx, hb, hml, hown, htB⟩ (c_X5_bestCustom l D cy az H.size M (Q := fun r' M' => r' = r1 ∧ Inv S Sn Sf Si Sj Sl M') h) (cwV 0 htB (zgV zm_688 zm_689 zm_690 zm_263 zm_691) rfl rfl rfl hd_X5_bestCustom ⟨Nat.le_of_ble_eq_true rfl, Nat.le_of_ble_eq_true rfl⟩) ⟨zM_blind, va_recv hK hPc (ci := 5) (q0 := 0) rfl rfl, zM_pre hPc hK hN hDc⟩ rfl rfl hl.1 rfl (lv_room (Nat.le_of_ble_eq_true rfl)) dL_law_687 ⟨Nat.le_of_ble_eq_true rfl, Nat.le_of_ble_eq_true rfl⟩) hS hA hP hD hsp (fun u => zsp (n := 9) rfl [8] [0, 1, 2, 3, 4, 5, 6, 7] (by decide)) (fun u => rfl) (fun r2 u H locs h hP hD hS => ?_)
  obtain ⟨M_2, eu⟩ : ∃ z, z = u := ⟨_, rfl⟩
  subst eu
  replace hP : va_P D zCl (zFl [bX4 ah an am af ai aj al ag cy S, bX3 an cy Sn, bX3 am cy Sm_1, bX0 af cy Sf, bX3 ai cy Si, bX0 aj cy Sj, bX2 al cy Sl, bX1 ag cy Sg_1, bX5 az cy M_2]) H := hP
  replace hD : va_D (fun q : Nat => s.heap.size ≤ q) (zFl [bX4 ah an am af ai aj al ag cy S, bX3 an cy Sn, bX3 am cy Sm_1, bX0 af cy Sf, bX3 ai cy Si, bX0 aj cy Sj, bX2 al cy Sl, bX1 ag cy Sg_1, bX5 az cy M_2]) := hD
  refine lv_icmp_eq (tgt := 1017) hx hb dL_law_690 (by decide) (fun _ => ?_) (fun cn => absurd h.1.symm cn)
  exact cont S Sn Sm_1 Sf Si Sj Sl Sg_1 M_2 H locs ls hP hD hS h.2 hl
set_option maxHeartbeats 4000000 in
set_option maxRecDepth 100000 in
theorem lc_23 (C : zLC p l e s m below meth c D cy b L xs ah an am af ai aj al ag az i) (hi : i + 5 ≤ L) (hL : L ≤ 2560) (cont : zLs1 p l e s m below meth c D cy b L xs ah an am af ai aj al ag az i 1017) : zLs1 p l e s m below meth c D cy b L xs ah an am af ai aj al ag az i 695 := by
  obtain ⟨⟨hx, hb, hr, hml, hown0, hts, hX, hbl, hlocks, hgv⟩, hK, hN, hC⟩ := C
  intro S Sn Sm Sf Si Sj Sl Sg M H locs ls hP hD hS hI hl
  have hown : s.vm.findClass RL = some m.cls := hown0
  have htB : ∀ w ∈ zB, w.before #[Value.ref b] s = true := fun w h => hts w (List.mem_filter.mp h).1
  have hA : ∀ q : Nat, s.heap.size ≤ q → (fun q : Nat => s.heap.size ≤ q) q := fun _ h => h
  have hbA : ¬ (fun q : Nat => s.heap.size ≤ q) b := Nat.not_le.mpr hbl
  have hin1 : vp_in (nI i + (1 : Int32)) L := by rw [show nI i + (1 : Int32) = nI (i + 1) from nI_add i 1]; exact vp_in_nI (by omega) (by omega)
  have hin2 : vp_in (nI i + (2 : Int32)) L := by rw [show nI i + (2 : Int32) = nI (i + 2) from nI_add i 2]; exact vp_in_nI (by omega) (by omega)
  have hin3 : vp_in (nI i + (3 : Int32)) L := by rw [show nI i + (3 : Int32) = nI (i + 3) from nI_add i 3]; exact vp_in_nI (by omega) (by omega)
  have hin4 : vp_in (nI i + (4 : Int32)) L := by rw [show nI i + (4 : Int32) = nI (i + 4) from nI_add i 4]; exact vp_in_nI (by omega) (by omega)
  refine lv_aload_n hx hb dL_law_695 rfl (lv_at hl 1 rfl) ?_
  have hsp : (zFl [bX4 ah an am af ai aj al ag cy S, bX3 an cy Sn, bX3 am cy Sm, bX0 af cy Sf, bX3 ai cy Si, bX0 aj cy Sj, bX2 al cy Sl, bX1 ag cy Sg, bX5 az cy M]).Perm ((zFl [bX0 af cy Sf, bX3 ai cy Si, bX0 aj cy Sj, bX2 al cy Sl, bX5 az cy M]) ++ ((bX4 ah an am af ai aj al ag cy S) ++ ((bX3 an cy Sn) ++ ((bX3 am cy Sm) ++ ((bX1 ag cy Sg)))))) := zsp (n := 9) rfl [0, 1, 2, 7] [3, 4, 5, 6, 8] (by decide)
  have hPc : va_P D zCl ((bX4 ah an am af ai aj al ag cy S) ++ ((bX3 an cy Sn) ++ ((bX3 am cy Sm) ++ ((bX1 ag cy Sg))))) H := zP_r (zP_perm hP hsp)
  have hDc : va_D (fun q : Nat => s.heap.size ≤ q) ((bX4 ah an am af ai aj al ag cy S) ++ ((bX3 an cy Sn) ++ ((bX3 am cy Sm) ++ ((bX1 ag cy Sg))))) := zD_r (zD_perm hD hsp)
  refine zc_p (wd' := fun u => (zFl [bX4 ah an am af ai aj al ag cy S, bX3 an cy Sn, bX3 am cy (u.1), bX0 af cy Sf, bX3 ai cy Si, bX0 aj cy Sj, bX2 al cy Sl, bX1 ag cy (u.2), bX5 az cy M])) (va_runV (As := []) (rest := []) ⟨hx, hb, hml, hown, htB⟩ (c_X4_bestShuts l D cy ah an am af ai aj al ag H.size S Sn Sm Sg (ok_bestShuts hI)) (cwV 0 htB (zgV zm_692 zm_693 zm_694 zm_4 zm_695) rfl rfl rfl hd_X4_bestShuts ⟨Nat.le_of_ble_eq_true rfl, Nat.le_of_ble_eq_true rfl⟩) ⟨zM_blind, va_recv hK hPc (ci := 4) (q0 := 0) rfl rfl, zM_pre hPc hK hN hDc⟩ rfl rfl hl.1 rfl (lv_room (Nat.le_of_ble_eq_true rfl)) dL_law_696 ⟨Nat.le_of_ble_eq_true rfl, Nat.le_of_ble_eq_true rfl⟩) hS hA hP hD hsp (fun u => zsp (n := 9) rfl [0, 1, 2, 7] [3, 4, 5, 6, 8] (by decide)) (fun u => rfl) (fun r1 u H locs h hP hD hS => ?_)
  obtain ⟨Sm_1, Sg_1⟩ := u
  replace hP : va_P D zCl (zFl [bX4 ah an am af ai aj al ag cy S, bX3 an cy Sn, bX3 am cy Sm_1, bX0 af cy Sf, bX3 ai cy Si, bX0 aj cy Sj, bX2 al cy Sl, bX1 ag cy Sg_1, bX5 az cy M]) H := hP
  replace hD : va_D (fun q : Nat => s.heap.size ≤ q) (zFl [bX4 ah an am af ai aj al ag cy S, bX3 an cy Sn, bX3 am cy Sm_1, bX0 af cy Sf, bX3 ai cy Si, bX0 aj cy Sj, bX2 al cy Sl, bX1 ag cy Sg_1, bX5 az cy M]) := hD
  refine lv_aload_n hx hb dL_law_699 rfl (lv_at hl 2 rfl) ?_
  have hsp : (zFl [bX4 ah an am af ai aj al ag cy S, bX3 an cy Sn, bX3 am cy Sm_1, bX0 af cy Sf, bX3 ai cy Si, bX0 aj cy Sj, bX2 al cy Sl, bX1 ag cy Sg_1, bX5 az cy M]).Perm ((zFl [bX4 ah an am af ai aj al ag cy S, bX3 an cy Sn, bX3 am cy Sm_1, bX0 af cy Sf, bX3 ai cy Si, bX0 aj cy Sj, bX2 al cy Sl, bX1 ag cy Sg_1]) ++ (bX5 az cy M)) := zsp (n := 9) rfl [8] [0, 1, 2, 3, 4, 5, 6, 7] (by decide)
  have hPc : va_P D zCl (bX5 az cy M) H := zP_r (zP_perm hP hsp)
  have hDc : va_D (fun q : Nat => s.heap.size ≤ q) (bX5 az cy M) := zD_r (zD_perm hD hsp)
  refine zc_p (wd' := fun u => (zFl [bX4 ah an am af ai aj al ag cy S, bX3 an cy Sn, bX3 am cy Sm_1, bX0 af cy Sf, bX3 ai cy Si, bX0 aj cy Sj, bX2 al cy Sl, bX1 ag cy Sg_1, bX5 az cy (u)])) (va_runV (As := []) (rest := [.int r1]) ⟨hx, hb, hml, hown, htB⟩ (c_X5_bestShuts l D cy az H.size M (Q := fun r' M' => r' = r1 ∧ Inv S Sn Sf Si Sj Sl M') h) (cwV 0 htB (zgV zm_696 zm_697 zm_698 zm_263 zm_699) rfl rfl rfl hd_X5_bestShuts ⟨Nat.le_of_ble_eq_true rfl, Nat.le_of_ble_eq_true rfl⟩) ⟨zM_blind, va_recv hK hPc (ci := 5) (q0 := 0) rfl rfl, zM_pre hPc hK hN hDc⟩ rfl rfl hl.1 rfl (lv_room (Nat.le_of_ble_eq_true rfl)) dL_law_700 ⟨Nat.le_of_ble_eq_true rfl, Nat.le_of_ble_eq_true rfl⟩) hS hA hP hD hsp (fun u => zsp (n := 9) rfl [8] [0, 1, 2, 3, 4, 5, 6, 7] (by decide)) (fun u => rfl) (fun r2 u H locs h hP hD hS => ?_)
  obtain ⟨M_2, eu⟩ : ∃ z, z = u := ⟨_, rfl⟩
  subst eu
  replace hP : va_P D zCl (zFl [bX4 ah an am af ai aj al ag cy S, bX3 an cy Sn, bX3 am cy Sm_1, bX0 af cy Sf, bX3 ai cy Si, bX0 aj cy Sj, bX2 al cy Sl, bX1 ag cy Sg_1, bX5 az cy M_2]) H := hP
  replace hD : va_D (fun q : Nat => s.heap.size ≤ q) (zFl [bX4 ah an am af ai aj al ag cy S, bX3 an cy Sn, bX3 am cy Sm_1, bX0 af cy Sf, bX3 ai cy Si, bX0 aj cy Sj, bX2 al cy Sl, bX1 ag cy Sg_1, bX5 az cy M_2]) := hD
  refine lv_icmp_eq (tgt := 1017) hx hb dL_law_703 (by decide) (fun _ => ?_) (fun cn => absurd h.1.symm cn)
  exact cont S Sn Sm_1 Sf Si Sj Sl Sg_1 M_2 H locs ls hP hD hS h.2 hl
set_option maxHeartbeats 4000000 in
set_option maxRecDepth 100000 in
theorem lc_24 (C : zLC p l e s m below meth c D cy b L xs ah an am af ai aj al ag az i) (hi : i + 5 ≤ L) (hL : L ≤ 2560) (cont : zLs1 p l e s m below meth c D cy b L xs ah an am af ai aj al ag az i 1017) : zLs1 p l e s m below meth c D cy b L xs ah an am af ai aj al ag az i 708 := by
  obtain ⟨⟨hx, hb, hr, hml, hown0, hts, hX, hbl, hlocks, hgv⟩, hK, hN, hC⟩ := C
  intro S Sn Sm Sf Si Sj Sl Sg M H locs ls hP hD hS hI hl
  have hown : s.vm.findClass RL = some m.cls := hown0
  have htB : ∀ w ∈ zB, w.before #[Value.ref b] s = true := fun w h => hts w (List.mem_filter.mp h).1
  have hA : ∀ q : Nat, s.heap.size ≤ q → (fun q : Nat => s.heap.size ≤ q) q := fun _ h => h
  have hbA : ¬ (fun q : Nat => s.heap.size ≤ q) b := Nat.not_le.mpr hbl
  have hin1 : vp_in (nI i + (1 : Int32)) L := by rw [show nI i + (1 : Int32) = nI (i + 1) from nI_add i 1]; exact vp_in_nI (by omega) (by omega)
  have hin2 : vp_in (nI i + (2 : Int32)) L := by rw [show nI i + (2 : Int32) = nI (i + 2) from nI_add i 2]; exact vp_in_nI (by omega) (by omega)
  have hin3 : vp_in (nI i + (3 : Int32)) L := by rw [show nI i + (3 : Int32) = nI (i + 3) from nI_add i 3]; exact vp_in_nI (by omega) (by omega)
  have hin4 : vp_in (nI i + (4 : Int32)) L := by rw [show nI i + (4 : Int32) = nI (i + 4) from nI_add i 4]; exact vp_in_nI (by omega) (by omega)
  refine lv_aload_n hx hb dL_law_708 rfl (lv_at hl 1 rfl) ?_
  have hsp : (zFl [bX4 ah an am af ai aj al ag cy S, bX3 an cy Sn, bX3 am cy Sm, bX0 af cy Sf, bX3 ai cy Si, bX0 aj cy Sj, bX2 al cy Sl, bX1 ag cy Sg, bX5 az cy M]).Perm ((zFl [bX0 af cy Sf, bX3 ai cy Si, bX0 aj cy Sj, bX2 al cy Sl, bX5 az cy M]) ++ ((bX4 ah an am af ai aj al ag cy S) ++ ((bX3 an cy Sn) ++ ((bX3 am cy Sm) ++ ((bX1 ag cy Sg)))))) := zsp (n := 9) rfl [0, 1, 2, 7] [3, 4, 5, 6, 8] (by decide)
  have hPc : va_P D zCl ((bX4 ah an am af ai aj al ag cy S) ++ ((bX3 an cy Sn) ++ ((bX3 am cy Sm) ++ ((bX1 ag cy Sg))))) H := zP_r (zP_perm hP hsp)
  have hDc : va_D (fun q : Nat => s.heap.size ≤ q) ((bX4 ah an am af ai aj al ag cy S) ++ ((bX3 an cy Sn) ++ ((bX3 am cy Sm) ++ ((bX1 ag cy Sg))))) := zD_r (zD_perm hD hsp)
  refine zc_p (wd' := fun u => (zFl [bX4 ah an am af ai aj al ag cy (u.1), bX3 an cy Sn, bX3 am cy (u.2.1), bX0 af cy Sf, bX3 ai cy Si, bX0 aj cy Sj, bX2 al cy Sl, bX1 ag cy (u.2.2), bX5 az cy M])) (va_runV (As := []) (rest := []) ⟨hx, hb, hml, hown, htB⟩ (c_X4_worse l D cy ah an am af ai aj al ag H.size Sn S Sm Sg (ok_worse hI)) (cwV 0 htB (zgV zm_700 zm_701 zm_702 zm_4 zm_703) rfl rfl rfl hd_X4_worse ⟨Nat.le_of_ble_eq_true rfl, Nat.le_of_ble_eq_true rfl⟩) ⟨zM_blind, va_recv hK hPc (ci := 4) (q0 := 0) rfl rfl, zM_pre hPc hK hN hDc⟩ rfl rfl hl.1 rfl (lv_room (Nat.le_of_ble_eq_true rfl)) dL_law_709 ⟨Nat.le_of_ble_eq_true rfl, Nat.le_of_ble_eq_true rfl⟩) hS hA hP hD hsp (fun u => zsp (n := 9) rfl [0, 1, 2, 7] [3, 4, 5, 6, 8] (by decide)) (fun u => rfl) (fun r1 u H locs h hP hD hS => ?_)
  obtain ⟨S_1, Sm_1, Sg_1⟩ := u
  replace hP : va_P D zCl (zFl [bX4 ah an am af ai aj al ag cy S_1, bX3 an cy Sn, bX3 am cy Sm_1, bX0 af cy Sf, bX3 ai cy Si, bX0 aj cy Sj, bX2 al cy Sl, bX1 ag cy Sg_1, bX5 az cy M]) H := hP
  replace hD : va_D (fun q : Nat => s.heap.size ≤ q) (zFl [bX4 ah an am af ai aj al ag cy S_1, bX3 an cy Sn, bX3 am cy Sm_1, bX0 af cy Sf, bX3 ai cy Si, bX0 aj cy Sj, bX2 al cy Sl, bX1 ag cy Sg_1, bX5 az cy M]) := hD
  refine lv_aload_n hx hb dL_law_712 rfl (lv_at hl 2 rfl) ?_
  have hsp : (zFl [bX4 ah an am af ai aj al ag cy S_1, bX3 an cy Sn, bX3 am cy Sm_1, bX0 af cy Sf, bX3 ai cy Si, bX0 aj cy Sj, bX2 al cy Sl, bX1 ag cy Sg_1, bX5 az cy M]).Perm ((zFl [bX4 ah an am af ai aj al ag cy S_1, bX3 an cy Sn, bX3 am cy Sm_1, bX0 af cy Sf, bX3 ai cy Si, bX0 aj cy Sj, bX2 al cy Sl, bX1 ag cy Sg_1]) ++ (bX5 az cy M)) := zsp (n := 9) rfl [8] [0, 1, 2, 3, 4, 5, 6, 7] (by decide)
  have hPc : va_P D zCl (bX5 az cy M) H := zP_r (zP_perm hP hsp)
  have hDc : va_D (fun q : Nat => s.heap.size ≤ q) (bX5 az cy M) := zD_r (zD_perm hD hsp)
  refine zc_p (wd' := fun u => (zFl [bX4 ah an am af ai aj al ag cy S_1, bX3 an cy Sn, bX3 am cy Sm_1, bX0 af cy Sf, bX3 ai cy Si, bX0 aj cy Sj, bX2 al cy Sl, bX1 ag cy Sg_1, bX5 az cy (u)])) (va_runV (As := []) (rest := [.int r1]) ⟨hx, hb, hml, hown, htB⟩ (c_X5_worse l D cy az H.size M (Q := fun r' M' => r' = r1 ∧ Inv S_1 Sn Sf Si Sj Sl M') h) (cwV 0 htB (zgV zm_704 zm_705 zm_706 zm_263 zm_707) rfl rfl rfl hd_X5_worse ⟨Nat.le_of_ble_eq_true rfl, Nat.le_of_ble_eq_true rfl⟩) ⟨zM_blind, va_recv hK hPc (ci := 5) (q0 := 0) rfl rfl, zM_pre hPc hK hN hDc⟩ rfl rfl hl.1 rfl (lv_room (Nat.le_of_ble_eq_true rfl)) dL_law_713 ⟨Nat.le_of_ble_eq_true rfl, Nat.le_of_ble_eq_true rfl⟩) hS hA hP hD hsp (fun u => zsp (n := 9) rfl [8] [0, 1, 2, 3, 4, 5, 6, 7] (by decide)) (fun u => rfl) (fun r2 u H locs h hP hD hS => ?_)
  obtain ⟨M_2, eu⟩ : ∃ z, z = u := ⟨_, rfl⟩
  subst eu
  replace hP : va_P D zCl (zFl [bX4 ah an am af ai aj al ag cy S_1, bX3 an cy Sn, bX3 am cy Sm_1, bX0 af cy Sf, bX3 ai cy Si, bX0 aj cy Sj, bX2 al cy Sl, bX1 ag cy Sg_1, bX5 az cy M_2]) H := hP
  replace hD : va_D (fun q : Nat => s.heap.size ≤ q) (zFl [bX4 ah an am af ai aj al ag cy S_1, bX3 an cy Sn, bX3 am cy Sm_1, bX0 af cy Sf, bX3 ai cy Si, bX0 aj cy Sj, bX2 al cy Sl, bX1 ag cy Sg_1, bX5 az cy M_2]) := hD
  refine lv_icmp_eq (tgt := 1017) hx hb dL_law_716 (by decide) (fun _ => ?_) (fun cn => absurd h.1.symm cn)
  exact cont S_1 Sn Sm_1 Sf Si Sj Sl Sg_1 M_2 H locs ls hP hD hS h.2 hl
set_option maxHeartbeats 4000000 in
set_option maxRecDepth 100000 in
theorem lc_25 (C : zLC p l e s m below meth c D cy b L xs ah an am af ai aj al ag az i) (hi : i + 5 ≤ L) (hL : L ≤ 2560) (cont : zLs1 p l e s m below meth c D cy b L xs ah an am af ai aj al ag az i 1017) : zLs1 p l e s m below meth c D cy b L xs ah an am af ai aj al ag az i 721 := by
  obtain ⟨⟨hx, hb, hr, hml, hown0, hts, hX, hbl, hlocks, hgv⟩, hK, hN, hC⟩ := C
  intro S Sn Sm Sf Si Sj Sl Sg M H locs ls hP hD hS hI hl
  have hown : s.vm.findClass RL = some m.cls := hown0
  have htB : ∀ w ∈ zB, w.before #[Value.ref b] s = true := fun w h => hts w (List.mem_filter.mp h).1
  have hA : ∀ q : Nat, s.heap.size ≤ q → (fun q : Nat => s.heap.size ≤ q) q := fun _ h => h
  have hbA : ¬ (fun q : Nat => s.heap.size ≤ q) b := Nat.not_le.mpr hbl
  have hin1 : vp_in (nI i + (1 : Int32)) L := by rw [show nI i + (1 : Int32) = nI (i + 1) from nI_add i 1]; exact vp_in_nI (by omega) (by omega)
  have hin2 : vp_in (nI i + (2 : Int32)) L := by rw [show nI i + (2 : Int32) = nI (i + 2) from nI_add i 2]; exact vp_in_nI (by omega) (by omega)
  have hin3 : vp_in (nI i + (3 : Int32)) L := by rw [show nI i + (3 : Int32) = nI (i + 3) from nI_add i 3]; exact vp_in_nI (by omega) (by omega)
  have hin4 : vp_in (nI i + (4 : Int32)) L := by rw [show nI i + (4 : Int32) = nI (i + 4) from nI_add i 4]; exact vp_in_nI (by omega) (by omega)
  refine lv_aload_n hx hb dL_law_721 rfl (lv_at hl 1 rfl) ?_
  have hsp : (zFl [bX4 ah an am af ai aj al ag cy S, bX3 an cy Sn, bX3 am cy Sm, bX0 af cy Sf, bX3 ai cy Si, bX0 aj cy Sj, bX2 al cy Sl, bX1 ag cy Sg, bX5 az cy M]).Perm ((zFl [bX3 am cy Sm, bX0 af cy Sf, bX3 ai cy Si, bX0 aj cy Sj, bX2 al cy Sl, bX5 az cy M]) ++ ((bX4 ah an am af ai aj al ag cy S) ++ ((bX3 an cy Sn) ++ ((bX1 ag cy Sg))))) := zsp (n := 9) rfl [0, 1, 7] [2, 3, 4, 5, 6, 8] (by decide)
  have hPc : va_P D zCl ((bX4 ah an am af ai aj al ag cy S) ++ ((bX3 an cy Sn) ++ ((bX1 ag cy Sg)))) H := zP_r (zP_perm hP hsp)
  have hDc : va_D (fun q : Nat => s.heap.size ≤ q) ((bX4 ah an am af ai aj al ag cy S) ++ ((bX3 an cy Sn) ++ ((bX1 ag cy Sg)))) := zD_r (zD_perm hD hsp)
  refine zc_p (wd' := fun u => (zFl [bX4 ah an am af ai aj al ag cy S, bX3 an cy Sn, bX3 am cy Sm, bX0 af cy Sf, bX3 ai cy Si, bX0 aj cy Sj, bX2 al cy Sl, bX1 ag cy (u), bX5 az cy M])) (va_runV (As := []) (rest := []) ⟨hx, hb, hml, hown, htB⟩ (c_X4_followed l D cy ah an am af ai aj al ag H.size S Sn Sg (ok_followed hI)) (cwV 0 htB (zgV zm_708 zm_709 zm_710 zm_4 zm_711) rfl rfl rfl hd_X4_followed ⟨Nat.le_of_ble_eq_true rfl, Nat.le_of_ble_eq_true rfl⟩) ⟨zM_blind, va_recv hK hPc (ci := 4) (q0 := 0) rfl rfl, zM_pre hPc hK hN hDc⟩ rfl rfl hl.1 rfl (lv_room (Nat.le_of_ble_eq_true rfl)) dL_law_722 ⟨Nat.le_of_ble_eq_true rfl, Nat.le_of_ble_eq_true rfl⟩) hS hA hP hD hsp (fun u => zsp (n := 9) rfl [0, 1, 7] [2, 3, 4, 5, 6, 8] (by decide)) (fun u => rfl) (fun r1 u H locs h hP hD hS => ?_)
  obtain ⟨Sg_1, eu⟩ : ∃ z, z = u := ⟨_, rfl⟩
  subst eu
  replace hP : va_P D zCl (zFl [bX4 ah an am af ai aj al ag cy S, bX3 an cy Sn, bX3 am cy Sm, bX0 af cy Sf, bX3 ai cy Si, bX0 aj cy Sj, bX2 al cy Sl, bX1 ag cy Sg_1, bX5 az cy M]) H := hP
  replace hD : va_D (fun q : Nat => s.heap.size ≤ q) (zFl [bX4 ah an am af ai aj al ag cy S, bX3 an cy Sn, bX3 am cy Sm, bX0 af cy Sf, bX3 ai cy Si, bX0 aj cy Sj, bX2 al cy Sl, bX1 ag cy Sg_1, bX5 az cy M]) := hD
  refine lv_aload_n hx hb dL_law_725 rfl (lv_at hl 2 rfl) ?_
  have hsp : (zFl [bX4 ah an am af ai aj al ag cy S, bX3 an cy Sn, bX3 am cy Sm, bX0 af cy Sf, bX3 ai cy Si, bX0 aj cy Sj, bX2 al cy Sl, bX1 ag cy Sg_1, bX5 az cy M]).Perm ((zFl [bX4 ah an am af ai aj al ag cy S, bX3 an cy Sn, bX3 am cy Sm, bX0 af cy Sf, bX3 ai cy Si, bX0 aj cy Sj, bX2 al cy Sl, bX1 ag cy Sg_1]) ++ (bX5 az cy M)) := zsp (n := 9) rfl [8] [0, 1, 2, 3, 4, 5, 6, 7] (by decide)
  have hPc : va_P D zCl (bX5 az cy M) H := zP_r (zP_perm hP hsp)
  have hDc : va_D (fun q : Nat => s.heap.size ≤ q) (bX5 az cy M) := zD_r (zD_perm hD hsp)
  refine zc_p (wd' := fun u => (zFl [bX4 ah an am af ai aj al ag cy S, bX3 an cy Sn, bX3 am cy Sm, bX0 af cy Sf, bX3 ai cy Si, bX0 aj cy Sj, bX2 al cy Sl, bX1 ag cy Sg_1, bX5 az cy (u)])) (va_runV (As := []) (rest := [.int r1]) ⟨hx, hb, hml, hown, htB⟩ (c_X5_followed l D cy az H.size M (Q := fun r' M' => r' = r1 ∧ Inv S Sn Sf Si Sj Sl M') h) (cwV 0 htB (zgV zm_712 zm_713 zm_714 zm_263 zm_715) rfl rfl rfl hd_X5_followed ⟨Nat.le_of_ble_eq_true rfl, Nat.le_of_ble_eq_true rfl⟩) ⟨zM_blind, va_recv hK hPc (ci := 5) (q0 := 0) rfl rfl, zM_pre hPc hK hN hDc⟩ rfl rfl hl.1 rfl (lv_room (Nat.le_of_ble_eq_true rfl)) dL_law_726 ⟨Nat.le_of_ble_eq_true rfl, Nat.le_of_ble_eq_true rfl⟩) hS hA hP hD hsp (fun u => zsp (n := 9) rfl [8] [0, 1, 2, 3, 4, 5, 6, 7] (by decide)) (fun u => rfl) (fun r2 u H locs h hP hD hS => ?_)
  obtain ⟨M_2, eu⟩ : ∃ z, z = u := ⟨_, rfl⟩
  subst eu
  replace hP : va_P D zCl (zFl [bX4 ah an am af ai aj al ag cy S, bX3 an cy Sn, bX3 am cy Sm, bX0 af cy Sf, bX3 ai cy Si, bX0 aj cy Sj, bX2 al cy Sl, bX1 ag cy Sg_1, bX5 az cy M_2]) H := hP
  replace hD : va_D (fun q : Nat => s.heap.size ≤ q) (zFl [bX4 ah an am af ai aj al ag cy S, bX3 an cy Sn, bX3 am cy Sm, bX0 af cy Sf, bX3 ai cy Si, bX0 aj cy Sj, bX2 al cy Sl, bX1 ag cy Sg_1, bX5 az cy M_2]) := hD
  refine lv_icmp_eq (tgt := 1017) hx hb dL_law_729 (by decide) (fun _ => ?_) (fun cn => absurd h.1.symm cn)
  exact cont S Sn Sm Sf Si Sj Sl Sg_1 M_2 H locs ls hP hD hS h.2 hl
set_option maxHeartbeats 4000000 in
set_option maxRecDepth 100000 in
theorem lc_26 (C : zLC p l e s m below meth c D cy b L xs ah an am af ai aj al ag az i) (hi : i + 5 ≤ L) (hL : L ≤ 2560) (cont : zLs1 p l e s m below meth c D cy b L xs ah an am af ai aj al ag az i 1017) : zLs1 p l e s m below meth c D cy b L xs ah an am af ai aj al ag az i 734 := by
  obtain ⟨⟨hx, hb, hr, hml, hown0, hts, hX, hbl, hlocks, hgv⟩, hK, hN, hC⟩ := C
  intro S Sn Sm Sf Si Sj Sl Sg M H locs ls hP hD hS hI hl
  have hown : s.vm.findClass RL = some m.cls := hown0
  have htB : ∀ w ∈ zB, w.before #[Value.ref b] s = true := fun w h => hts w (List.mem_filter.mp h).1
  have hA : ∀ q : Nat, s.heap.size ≤ q → (fun q : Nat => s.heap.size ≤ q) q := fun _ h => h
  have hbA : ¬ (fun q : Nat => s.heap.size ≤ q) b := Nat.not_le.mpr hbl
  have hin1 : vp_in (nI i + (1 : Int32)) L := by rw [show nI i + (1 : Int32) = nI (i + 1) from nI_add i 1]; exact vp_in_nI (by omega) (by omega)
  have hin2 : vp_in (nI i + (2 : Int32)) L := by rw [show nI i + (2 : Int32) = nI (i + 2) from nI_add i 2]; exact vp_in_nI (by omega) (by omega)
  have hin3 : vp_in (nI i + (3 : Int32)) L := by rw [show nI i + (3 : Int32) = nI (i + 3) from nI_add i 3]; exact vp_in_nI (by omega) (by omega)
  have hin4 : vp_in (nI i + (4 : Int32)) L := by rw [show nI i + (4 : Int32) = nI (i + 4) from nI_add i 4]; exact vp_in_nI (by omega) (by omega)
  refine lv_aload_n hx hb dL_law_734 rfl (lv_at hl 1 rfl) ?_
  have hsp : (zFl [bX4 ah an am af ai aj al ag cy S, bX3 an cy Sn, bX3 am cy Sm, bX0 af cy Sf, bX3 ai cy Si, bX0 aj cy Sj, bX2 al cy Sl, bX1 ag cy Sg, bX5 az cy M]).Perm ((zFl [bX0 af cy Sf, bX3 ai cy Si, bX0 aj cy Sj, bX2 al cy Sl, bX5 az cy M]) ++ ((bX4 ah an am af ai aj al ag cy S) ++ ((bX3 an cy Sn) ++ ((bX3 am cy Sm) ++ ((bX1 ag cy Sg)))))) := zsp (n := 9) rfl [0, 1, 2, 7] [3, 4, 5, 6, 8] (by decide)
  have hPc : va_P D zCl ((bX4 ah an am af ai aj al ag cy S) ++ ((bX3 an cy Sn) ++ ((bX3 am cy Sm) ++ ((bX1 ag cy Sg))))) H := zP_r (zP_perm hP hsp)
  have hDc : va_D (fun q : Nat => s.heap.size ≤ q) ((bX4 ah an am af ai aj al ag cy S) ++ ((bX3 an cy Sn) ++ ((bX3 am cy Sm) ++ ((bX1 ag cy Sg))))) := zD_r (zD_perm hD hsp)
  refine zc_p (wd' := fun u => (zFl [bX4 ah an am af ai aj al ag cy S, bX3 an cy Sn, bX3 am cy (u.1), bX0 af cy Sf, bX3 ai cy Si, bX0 aj cy Sj, bX2 al cy Sl, bX1 ag cy (u.2), bX5 az cy M])) (va_runV (As := []) (rest := []) ⟨hx, hb, hml, hown, htB⟩ (c_X4_porter l D cy ah an am af ai aj al ag H.size S Sn Sm Sg (ok_porter hI)) (cwV 0 htB (zgV zm_716 zm_717 zm_718 zm_4 zm_719) rfl rfl rfl hd_X4_porter ⟨Nat.le_of_ble_eq_true rfl, Nat.le_of_ble_eq_true rfl⟩) ⟨zM_blind, va_recv hK hPc (ci := 4) (q0 := 0) rfl rfl, zM_pre hPc hK hN hDc⟩ rfl rfl hl.1 rfl (lv_room (Nat.le_of_ble_eq_true rfl)) dL_law_735 ⟨Nat.le_of_ble_eq_true rfl, Nat.le_of_ble_eq_true rfl⟩) hS hA hP hD hsp (fun u => zsp (n := 9) rfl [0, 1, 2, 7] [3, 4, 5, 6, 8] (by decide)) (fun u => rfl) (fun r1 u H locs h hP hD hS => ?_)
  obtain ⟨Sm_1, Sg_1⟩ := u
  replace hP : va_P D zCl (zFl [bX4 ah an am af ai aj al ag cy S, bX3 an cy Sn, bX3 am cy Sm_1, bX0 af cy Sf, bX3 ai cy Si, bX0 aj cy Sj, bX2 al cy Sl, bX1 ag cy Sg_1, bX5 az cy M]) H := hP
  replace hD : va_D (fun q : Nat => s.heap.size ≤ q) (zFl [bX4 ah an am af ai aj al ag cy S, bX3 an cy Sn, bX3 am cy Sm_1, bX0 af cy Sf, bX3 ai cy Si, bX0 aj cy Sj, bX2 al cy Sl, bX1 ag cy Sg_1, bX5 az cy M]) := hD
  refine lv_aload_n hx hb dL_law_738 rfl (lv_at hl 2 rfl) ?_
  have hsp : (zFl [bX4 ah an am af ai aj al ag cy S, bX3 an cy Sn, bX3 am cy Sm_1, bX0 af cy Sf, bX3 ai cy Si, bX0 aj cy Sj, bX2 al cy Sl, bX1 ag cy Sg_1, bX5 az cy M]).Perm ((zFl [bX4 ah an am af ai aj al ag cy S, bX3 an cy Sn, bX3 am cy Sm_1, bX0 af cy Sf, bX3 ai cy Si, bX0 aj cy Sj, bX2 al cy Sl, bX1 ag cy Sg_1]) ++ (bX5 az cy M)) := zsp (n := 9) rfl [8] [0, 1, 2, 3, 4, 5, 6, 7] (by decide)
  have hPc : va_P D zCl (bX5 az cy M) H := zP_r (zP_perm hP hsp)
  have hDc : va_D (fun q : Nat => s.heap.size ≤ q) (bX5 az cy M) := zD_r (zD_perm hD hsp)
  refine zc_p (wd' := fun u => (zFl [bX4 ah an am af ai aj al ag cy S, bX3 an cy Sn, bX3 am cy Sm_1, bX0 af cy Sf, bX3 ai cy Si, bX0 aj cy Sj, bX2 al cy Sl, bX1 ag cy Sg_1, bX5 az cy (u)])) (va_runV (As := []) (rest := [.int r1]) ⟨hx, hb, hml, hown, htB⟩ (c_X5_porter l D cy az H.size M (Q := fun r' M' => r' = r1 ∧ Inv S Sn Sf Si Sj Sl M') h) (cwV 0 htB (zgV zm_720 zm_721 zm_722 zm_263 zm_723) rfl rfl rfl hd_X5_porter ⟨Nat.le_of_ble_eq_true rfl, Nat.le_of_ble_eq_true rfl⟩) ⟨zM_blind, va_recv hK hPc (ci := 5) (q0 := 0) rfl rfl, zM_pre hPc hK hN hDc⟩ rfl rfl hl.1 rfl (lv_room (Nat.le_of_ble_eq_true rfl)) dL_law_739 ⟨Nat.le_of_ble_eq_true rfl, Nat.le_of_ble_eq_true rfl⟩) hS hA hP hD hsp (fun u => zsp (n := 9) rfl [8] [0, 1, 2, 3, 4, 5, 6, 7] (by decide)) (fun u => rfl) (fun r2 u H locs h hP hD hS => ?_)
  obtain ⟨M_2, eu⟩ : ∃ z, z = u := ⟨_, rfl⟩
  subst eu
  replace hP : va_P D zCl (zFl [bX4 ah an am af ai aj al ag cy S, bX3 an cy Sn, bX3 am cy Sm_1, bX0 af cy Sf, bX3 ai cy Si, bX0 aj cy Sj, bX2 al cy Sl, bX1 ag cy Sg_1, bX5 az cy M_2]) H := hP
  replace hD : va_D (fun q : Nat => s.heap.size ≤ q) (zFl [bX4 ah an am af ai aj al ag cy S, bX3 an cy Sn, bX3 am cy Sm_1, bX0 af cy Sf, bX3 ai cy Si, bX0 aj cy Sj, bX2 al cy Sl, bX1 ag cy Sg_1, bX5 az cy M_2]) := hD
  refine lv_icmp_eq (tgt := 1017) hx hb dL_law_742 (by decide) (fun _ => ?_) (fun cn => absurd h.1.symm cn)
  exact cont S Sn Sm_1 Sf Si Sj Sl Sg_1 M_2 H locs ls hP hD hS h.2 hl
set_option maxHeartbeats 4000000 in
set_option maxRecDepth 100000 in
theorem lc_27 (C : zLC p l e s m below meth c D cy b L xs ah an am af ai aj al ag az i) (hi : i + 5 ≤ L) (hL : L ≤ 2560) (cont : zLs1 p l e s m below meth c D cy b L xs ah an am af ai aj al ag az i 1017) : zLs1 p l e s m below meth c D cy b L xs ah an am af ai aj al ag az i 747 := by
  obtain ⟨⟨hx, hb, hr, hml, hown0, hts, hX, hbl, hlocks, hgv⟩, hK, hN, hC⟩ := C
  intro S Sn Sm Sf Si Sj Sl Sg M H locs ls hP hD hS hI hl
  have hown : s.vm.findClass RL = some m.cls := hown0
  have htB : ∀ w ∈ zB, w.before #[Value.ref b] s = true := fun w h => hts w (List.mem_filter.mp h).1
  have hA : ∀ q : Nat, s.heap.size ≤ q → (fun q : Nat => s.heap.size ≤ q) q := fun _ h => h
  have hbA : ¬ (fun q : Nat => s.heap.size ≤ q) b := Nat.not_le.mpr hbl
  have hin1 : vp_in (nI i + (1 : Int32)) L := by rw [show nI i + (1 : Int32) = nI (i + 1) from nI_add i 1]; exact vp_in_nI (by omega) (by omega)
  have hin2 : vp_in (nI i + (2 : Int32)) L := by rw [show nI i + (2 : Int32) = nI (i + 2) from nI_add i 2]; exact vp_in_nI (by omega) (by omega)
  have hin3 : vp_in (nI i + (3 : Int32)) L := by rw [show nI i + (3 : Int32) = nI (i + 3) from nI_add i 3]; exact vp_in_nI (by omega) (by omega)
  have hin4 : vp_in (nI i + (4 : Int32)) L := by rw [show nI i + (4 : Int32) = nI (i + 4) from nI_add i 4]; exact vp_in_nI (by omega) (by omega)
  refine lv_aload_n hx hb dL_law_747 rfl (lv_at hl 1 rfl) ?_
  refine lv_aload_n hx hb dL_law_748 rfl (lv_at hl 0 rfl) ?_
  refine lv_iload_n hx hb dL_law_749 rfl (lv_at hl 3 rfl) ?_
  refine lv_iconst (v := (1 : Int32)) hx hb dL_law_750 (by decide) ?_
  refine lv_iadd hx hb dL_law_751 ?_
  refine va_sld hx hb hX hbl hbA hS (hin1) dL_law_752 ?_
  have hsp : (zFl [bX4 ah an am af ai aj al ag cy S, bX3 an cy Sn, bX3 am cy Sm, bX0 af cy Sf, bX3 ai cy Si, bX0 aj cy Sj, bX2 al cy Sl, bX1 ag cy Sg, bX5 az cy M]).Perm ((zFl [bX0 af cy Sf, bX3 ai cy Si, bX0 aj cy Sj, bX2 al cy Sl, bX5 az cy M]) ++ ((bX4 ah an am af ai aj al ag cy S) ++ ((bX3 an cy Sn) ++ ((bX3 am cy Sm) ++ ((bX1 ag cy Sg)))))) := zsp (n := 9) rfl [0, 1, 2, 7] [3, 4, 5, 6, 8] (by decide)
  have hPc : va_P D zCl ((bX4 ah an am af ai aj al ag cy S) ++ ((bX3 an cy Sn) ++ ((bX3 am cy Sm) ++ ((bX1 ag cy Sg))))) H := zP_r (zP_perm hP hsp)
  have hDc : va_D (fun q : Nat => s.heap.size ≤ q) ((bX4 ah an am af ai aj al ag cy S) ++ ((bX3 an cy Sn) ++ ((bX3 am cy Sm) ++ ((bX1 ag cy Sg))))) := zD_r (zD_perm hD hsp)
  refine zc_p (wd' := fun u => (zFl [bX4 ah an am af ai aj al ag cy (u.1), bX3 an cy Sn, bX3 am cy (u.2.1), bX0 af cy Sf, bX3 ai cy Si, bX0 aj cy Sj, bX2 al cy Sl, bX1 ag cy (u.2.2), bX5 az cy M])) (va_runV (As := [.int (xs (nI i + (1 : Int32)).toNatClampNeg)]) (rest := []) ⟨hx, hb, hml, hown, htB⟩ (c_X4_alone l D cy ah an am af ai aj al ag H.size Sn (xs (nI i + (1 : Int32)).toNatClampNeg) S Sm Sg (ok_alone hI)) (cwV 1 htB (zgV zm_724 zm_725 zm_726 zm_4 zm_727) rfl rfl rfl hd_X4_alone ⟨Nat.le_of_ble_eq_true rfl, Nat.le_of_ble_eq_true rfl⟩) ⟨zM_blind, va_recv hK hPc (ci := 4) (q0 := 0) rfl rfl, zM_pre hPc hK hN hDc⟩ rfl rfl hl.1 rfl (lv_room (Nat.le_of_ble_eq_true rfl)) dL_law_753 ⟨Nat.le_of_ble_eq_true rfl, Nat.le_of_ble_eq_true rfl⟩) hS hA hP hD hsp (fun u => zsp (n := 9) rfl [0, 1, 2, 7] [3, 4, 5, 6, 8] (by decide)) (fun u => rfl) (fun r1 u H locs h hP hD hS => ?_)
  obtain ⟨S_1, Sm_1, Sg_1⟩ := u
  replace hP : va_P D zCl (zFl [bX4 ah an am af ai aj al ag cy S_1, bX3 an cy Sn, bX3 am cy Sm_1, bX0 af cy Sf, bX3 ai cy Si, bX0 aj cy Sj, bX2 al cy Sl, bX1 ag cy Sg_1, bX5 az cy M]) H := hP
  replace hD : va_D (fun q : Nat => s.heap.size ≤ q) (zFl [bX4 ah an am af ai aj al ag cy S_1, bX3 an cy Sn, bX3 am cy Sm_1, bX0 af cy Sf, bX3 ai cy Si, bX0 aj cy Sj, bX2 al cy Sl, bX1 ag cy Sg_1, bX5 az cy M]) := hD
  refine lv_aload_n hx hb dL_law_756 rfl (lv_at hl 2 rfl) ?_
  refine lv_aload_n hx hb dL_law_757 rfl (lv_at hl 0 rfl) ?_
  refine lv_iload_n hx hb dL_law_758 rfl (lv_at hl 3 rfl) ?_
  refine lv_iconst (v := (1 : Int32)) hx hb dL_law_759 (by decide) ?_
  refine lv_iadd hx hb dL_law_760 ?_
  refine va_sld hx hb hX hbl hbA hS (hin1) dL_law_761 ?_
  have hsp : (zFl [bX4 ah an am af ai aj al ag cy S_1, bX3 an cy Sn, bX3 am cy Sm_1, bX0 af cy Sf, bX3 ai cy Si, bX0 aj cy Sj, bX2 al cy Sl, bX1 ag cy Sg_1, bX5 az cy M]).Perm ((zFl [bX4 ah an am af ai aj al ag cy S_1, bX3 an cy Sn, bX3 am cy Sm_1, bX0 af cy Sf, bX3 ai cy Si, bX0 aj cy Sj, bX2 al cy Sl, bX1 ag cy Sg_1]) ++ (bX5 az cy M)) := zsp (n := 9) rfl [8] [0, 1, 2, 3, 4, 5, 6, 7] (by decide)
  have hPc : va_P D zCl (bX5 az cy M) H := zP_r (zP_perm hP hsp)
  have hDc : va_D (fun q : Nat => s.heap.size ≤ q) (bX5 az cy M) := zD_r (zD_perm hD hsp)
  refine zc_p (wd' := fun u => (zFl [bX4 ah an am af ai aj al ag cy S_1, bX3 an cy Sn, bX3 am cy Sm_1, bX0 af cy Sf, bX3 ai cy Si, bX0 aj cy Sj, bX2 al cy Sl, bX1 ag cy Sg_1, bX5 az cy (u)])) (va_runV (As := [.int (xs (nI i + (1 : Int32)).toNatClampNeg)]) (rest := [.int r1]) ⟨hx, hb, hml, hown, htB⟩ (c_X5_alone l D cy az H.size (xs (nI i + (1 : Int32)).toNatClampNeg) M (Q := fun r' M' => r' = r1 ∧ Inv S_1 Sn Sf Si Sj Sl M') h) (cwV 1 htB (zgV zm_728 zm_729 zm_730 zm_263 zm_731) rfl rfl rfl hd_X5_alone ⟨Nat.le_of_ble_eq_true rfl, Nat.le_of_ble_eq_true rfl⟩) ⟨zM_blind, va_recv hK hPc (ci := 5) (q0 := 0) rfl rfl, zM_pre hPc hK hN hDc⟩ rfl rfl hl.1 rfl (lv_room (Nat.le_of_ble_eq_true rfl)) dL_law_762 ⟨Nat.le_of_ble_eq_true rfl, Nat.le_of_ble_eq_true rfl⟩) hS hA hP hD hsp (fun u => zsp (n := 9) rfl [8] [0, 1, 2, 3, 4, 5, 6, 7] (by decide)) (fun u => rfl) (fun r2 u H locs h hP hD hS => ?_)
  obtain ⟨M_2, eu⟩ : ∃ z, z = u := ⟨_, rfl⟩
  subst eu
  replace hP : va_P D zCl (zFl [bX4 ah an am af ai aj al ag cy S_1, bX3 an cy Sn, bX3 am cy Sm_1, bX0 af cy Sf, bX3 ai cy Si, bX0 aj cy Sj, bX2 al cy Sl, bX1 ag cy Sg_1, bX5 az cy M_2]) H := hP
  replace hD : va_D (fun q : Nat => s.heap.size ≤ q) (zFl [bX4 ah an am af ai aj al ag cy S_1, bX3 an cy Sn, bX3 am cy Sm_1, bX0 af cy Sf, bX3 ai cy Si, bX0 aj cy Sj, bX2 al cy Sl, bX1 ag cy Sg_1, bX5 az cy M_2]) := hD
  refine lv_icmp_eq (tgt := 1017) hx hb dL_law_765 (by decide) (fun _ => ?_) (fun cn => absurd h.1.symm cn)
  exact cont S_1 Sn Sm_1 Sf Si Sj Sl Sg_1 M_2 H locs ls hP hD hS h.2 hl
set_option maxHeartbeats 4000000 in
set_option maxRecDepth 100000 in
theorem lc_28 (C : zLC p l e s m below meth c D cy b L xs ah an am af ai aj al ag az i) (hi : i + 5 ≤ L) (hL : L ≤ 2560) (cont : zLs1 p l e s m below meth c D cy b L xs ah an am af ai aj al ag az i 1017) : zLs1 p l e s m below meth c D cy b L xs ah an am af ai aj al ag az i 770 := by
  obtain ⟨⟨hx, hb, hr, hml, hown0, hts, hX, hbl, hlocks, hgv⟩, hK, hN, hC⟩ := C
  intro S Sn Sm Sf Si Sj Sl Sg M H locs ls hP hD hS hI hl
  have hown : s.vm.findClass RL = some m.cls := hown0
  have htB : ∀ w ∈ zB, w.before #[Value.ref b] s = true := fun w h => hts w (List.mem_filter.mp h).1
  have hA : ∀ q : Nat, s.heap.size ≤ q → (fun q : Nat => s.heap.size ≤ q) q := fun _ h => h
  have hbA : ¬ (fun q : Nat => s.heap.size ≤ q) b := Nat.not_le.mpr hbl
  have hin1 : vp_in (nI i + (1 : Int32)) L := by rw [show nI i + (1 : Int32) = nI (i + 1) from nI_add i 1]; exact vp_in_nI (by omega) (by omega)
  have hin2 : vp_in (nI i + (2 : Int32)) L := by rw [show nI i + (2 : Int32) = nI (i + 2) from nI_add i 2]; exact vp_in_nI (by omega) (by omega)
  have hin3 : vp_in (nI i + (3 : Int32)) L := by rw [show nI i + (3 : Int32) = nI (i + 3) from nI_add i 3]; exact vp_in_nI (by omega) (by omega)
  have hin4 : vp_in (nI i + (4 : Int32)) L := by rw [show nI i + (4 : Int32) = nI (i + 4) from nI_add i 4]; exact vp_in_nI (by omega) (by omega)
  refine lv_aload_n hx hb dL_law_770 rfl (lv_at hl 1 rfl) ?_
  refine lv_aload_n hx hb dL_law_771 rfl (lv_at hl 0 rfl) ?_
  refine lv_iload_n hx hb dL_law_772 rfl (lv_at hl 3 rfl) ?_
  refine lv_iconst (v := (1 : Int32)) hx hb dL_law_773 (by decide) ?_
  refine lv_iadd hx hb dL_law_774 ?_
  refine va_sld hx hb hX hbl hbA hS (hin1) dL_law_775 ?_
  refine lv_aload_n hx hb dL_law_776 rfl (lv_at hl 0 rfl) ?_
  refine lv_iload_n hx hb dL_law_777 rfl (lv_at hl 3 rfl) ?_
  refine lv_iconst (v := (2 : Int32)) hx hb dL_law_778 (by decide) ?_
  refine lv_iadd hx hb dL_law_779 ?_
  refine va_sld hx hb hX hbl hbA hS (hin2) dL_law_780 ?_
  refine lv_aload_n hx hb dL_law_781 rfl (lv_at hl 0 rfl) ?_
  refine lv_iload_n hx hb dL_law_782 rfl (lv_at hl 3 rfl) ?_
  refine lv_iconst (v := (3 : Int32)) hx hb dL_law_783 (by decide) ?_
  refine lv_iadd hx hb dL_law_784 ?_
  refine va_sld hx hb hX hbl hbA hS (hin3) dL_law_785 ?_
  refine lv_aload_n hx hb dL_law_786 rfl (lv_at hl 0 rfl) ?_
  refine lv_iload_n hx hb dL_law_787 rfl (lv_at hl 3 rfl) ?_
  refine lv_iconst (v := (4 : Int32)) hx hb dL_law_788 (by decide) ?_
  refine lv_iadd hx hb dL_law_789 ?_
  refine va_sld hx hb hX hbl hbA hS (hin4) dL_law_790 ?_
  have hsp : (zFl [bX4 ah an am af ai aj al ag cy S, bX3 an cy Sn, bX3 am cy Sm, bX0 af cy Sf, bX3 ai cy Si, bX0 aj cy Sj, bX2 al cy Sl, bX1 ag cy Sg, bX5 az cy M]).Perm ((zFl [bX3 an cy Sn, bX3 am cy Sm, bX3 ai cy Si, bX0 aj cy Sj, bX2 al cy Sl, bX1 ag cy Sg, bX5 az cy M]) ++ ((bX4 ah an am af ai aj al ag cy S) ++ ((bX0 af cy Sf)))) := zsp (n := 9) rfl [0, 3] [1, 2, 4, 5, 6, 7, 8] (by decide)
  have hPc : va_P D zCl ((bX4 ah an am af ai aj al ag cy S) ++ ((bX0 af cy Sf))) H := zP_r (zP_perm hP hsp)
  have hDc : va_D (fun q : Nat => s.heap.size ≤ q) ((bX4 ah an am af ai aj al ag cy S) ++ ((bX0 af cy Sf))) := zD_r (zD_perm hD hsp)
  refine zc_p (wd' := fun u => (zFl [bX4 ah an am af ai aj al ag cy (u.1), bX3 an cy Sn, bX3 am cy Sm, bX0 af cy (u.2), bX3 ai cy Si, bX0 aj cy Sj, bX2 al cy Sl, bX1 ag cy Sg, bX5 az cy M])) (va_runV (As := [.int (xs (nI i + (1 : Int32)).toNatClampNeg), .int (xs (nI i + (2 : Int32)).toNatClampNeg), .int (xs (nI i + (3 : Int32)).toNatClampNeg), .int (xs (nI i + (4 : Int32)).toNatClampNeg)]) (rest := []) ⟨hx, hb, hml, hown, htB⟩ (c_X4_film l D cy ah an am af ai aj al ag H.size (xs (nI i + (1 : Int32)).toNatClampNeg) (xs (nI i + (2 : Int32)).toNatClampNeg) (xs (nI i + (3 : Int32)).toNatClampNeg) (xs (nI i + (4 : Int32)).toNatClampNeg) S Sf (ok_film hI)) (cwV 4 htB (zgV zm_732 zm_733 zm_734 zm_4 zm_735) rfl rfl rfl hd_X4_film ⟨Nat.le_of_ble_eq_true rfl, Nat.le_of_ble_eq_true rfl⟩) ⟨zM_blind, va_recv hK hPc (ci := 4) (q0 := 0) rfl rfl, zM_pre hPc hK hN hDc⟩ rfl rfl hl.1 rfl (lv_room (Nat.le_of_ble_eq_true rfl)) dL_law_791 ⟨Nat.le_of_ble_eq_true rfl, Nat.le_of_ble_eq_true rfl⟩) hS hA hP hD hsp (fun u => zsp (n := 9) rfl [0, 3] [1, 2, 4, 5, 6, 7, 8] (by decide)) (fun u => rfl) (fun r1 u H locs h hP hD hS => ?_)
  obtain ⟨S_1, Sf_1⟩ := u
  replace hP : va_P D zCl (zFl [bX4 ah an am af ai aj al ag cy S_1, bX3 an cy Sn, bX3 am cy Sm, bX0 af cy Sf_1, bX3 ai cy Si, bX0 aj cy Sj, bX2 al cy Sl, bX1 ag cy Sg, bX5 az cy M]) H := hP
  replace hD : va_D (fun q : Nat => s.heap.size ≤ q) (zFl [bX4 ah an am af ai aj al ag cy S_1, bX3 an cy Sn, bX3 am cy Sm, bX0 af cy Sf_1, bX3 ai cy Si, bX0 aj cy Sj, bX2 al cy Sl, bX1 ag cy Sg, bX5 az cy M]) := hD
  refine lv_aload_n hx hb dL_law_794 rfl (lv_at hl 2 rfl) ?_
  refine lv_aload_n hx hb dL_law_795 rfl (lv_at hl 0 rfl) ?_
  refine lv_iload_n hx hb dL_law_796 rfl (lv_at hl 3 rfl) ?_
  refine lv_iconst (v := (1 : Int32)) hx hb dL_law_797 (by decide) ?_
  refine lv_iadd hx hb dL_law_798 ?_
  refine va_sld hx hb hX hbl hbA hS (hin1) dL_law_799 ?_
  refine lv_aload_n hx hb dL_law_800 rfl (lv_at hl 0 rfl) ?_
  refine lv_iload_n hx hb dL_law_801 rfl (lv_at hl 3 rfl) ?_
  refine lv_iconst (v := (2 : Int32)) hx hb dL_law_802 (by decide) ?_
  refine lv_iadd hx hb dL_law_803 ?_
  refine va_sld hx hb hX hbl hbA hS (hin2) dL_law_804 ?_
  refine lv_aload_n hx hb dL_law_805 rfl (lv_at hl 0 rfl) ?_
  refine lv_iload_n hx hb dL_law_806 rfl (lv_at hl 3 rfl) ?_
  refine lv_iconst (v := (3 : Int32)) hx hb dL_law_807 (by decide) ?_
  refine lv_iadd hx hb dL_law_808 ?_
  refine va_sld hx hb hX hbl hbA hS (hin3) dL_law_809 ?_
  refine lv_aload_n hx hb dL_law_810 rfl (lv_at hl 0 rfl) ?_
  refine lv_iload_n hx hb dL_law_811 rfl (lv_at hl 3 rfl) ?_
  refine lv_iconst (v := (4 : Int32)) hx hb dL_law_812 (by decide) ?_
  refine lv_iadd hx hb dL_law_813 ?_
  refine va_sld hx hb hX hbl hbA hS (hin4) dL_law_814 ?_
  have hsp : (zFl [bX4 ah an am af ai aj al ag cy S_1, bX3 an cy Sn, bX3 am cy Sm, bX0 af cy Sf_1, bX3 ai cy Si, bX0 aj cy Sj, bX2 al cy Sl, bX1 ag cy Sg, bX5 az cy M]).Perm ((zFl [bX4 ah an am af ai aj al ag cy S_1, bX3 an cy Sn, bX3 am cy Sm, bX0 af cy Sf_1, bX3 ai cy Si, bX0 aj cy Sj, bX2 al cy Sl, bX1 ag cy Sg]) ++ (bX5 az cy M)) := zsp (n := 9) rfl [8] [0, 1, 2, 3, 4, 5, 6, 7] (by decide)
  have hPc : va_P D zCl (bX5 az cy M) H := zP_r (zP_perm hP hsp)
  have hDc : va_D (fun q : Nat => s.heap.size ≤ q) (bX5 az cy M) := zD_r (zD_perm hD hsp)
  refine zc_p (wd' := fun u => (zFl [bX4 ah an am af ai aj al ag cy S_1, bX3 an cy Sn, bX3 am cy Sm, bX0 af cy Sf_1, bX3 ai cy Si, bX0 aj cy Sj, bX2 al cy Sl, bX1 ag cy Sg, bX5 az cy (u)])) (va_runV (As := [.int (xs (nI i + (1 : Int32)).toNatClampNeg), .int (xs (nI i + (2 : Int32)).toNatClampNeg), .int (xs (nI i + (3 : Int32)).toNatClampNeg), .int (xs (nI i + (4 : Int32)).toNatClampNeg)]) (rest := [.int r1]) ⟨hx, hb, hml, hown, htB⟩ (c_X5_film l D cy az H.size (xs (nI i + (1 : Int32)).toNatClampNeg) (xs (nI i + (2 : Int32)).toNatClampNeg) (xs (nI i + (3 : Int32)).toNatClampNeg) (xs (nI i + (4 : Int32)).toNatClampNeg) M (Q := fun r' M' => r' = r1 ∧ Inv S_1 Sn Sf_1 Si Sj Sl M') h) (cwV 4 htB (zgV zm_736 zm_737 zm_738 zm_263 zm_739) rfl rfl rfl hd_X5_film ⟨Nat.le_of_ble_eq_true rfl, Nat.le_of_ble_eq_true rfl⟩) ⟨zM_blind, va_recv hK hPc (ci := 5) (q0 := 0) rfl rfl, zM_pre hPc hK hN hDc⟩ rfl rfl hl.1 rfl (lv_room (Nat.le_of_ble_eq_true rfl)) dL_law_815 ⟨Nat.le_of_ble_eq_true rfl, Nat.le_of_ble_eq_true rfl⟩) hS hA hP hD hsp (fun u => zsp (n := 9) rfl [8] [0, 1, 2, 3, 4, 5, 6, 7] (by decide)) (fun u => rfl) (fun r2 u H locs h hP hD hS => ?_)
  obtain ⟨M_2, eu⟩ : ∃ z, z = u := ⟨_, rfl⟩
  subst eu
  replace hP : va_P D zCl (zFl [bX4 ah an am af ai aj al ag cy S_1, bX3 an cy Sn, bX3 am cy Sm, bX0 af cy Sf_1, bX3 ai cy Si, bX0 aj cy Sj, bX2 al cy Sl, bX1 ag cy Sg, bX5 az cy M_2]) H := hP
  replace hD : va_D (fun q : Nat => s.heap.size ≤ q) (zFl [bX4 ah an am af ai aj al ag cy S_1, bX3 an cy Sn, bX3 am cy Sm, bX0 af cy Sf_1, bX3 ai cy Si, bX0 aj cy Sj, bX2 al cy Sl, bX1 ag cy Sg, bX5 az cy M_2]) := hD
  refine lv_icmp_eq (tgt := 1017) hx hb dL_law_818 (by decide) (fun _ => ?_) (fun cn => absurd h.1.symm cn)
  exact cont S_1 Sn Sm Sf_1 Si Sj Sl Sg M_2 H locs ls hP hD hS h.2 hl
set_option maxHeartbeats 4000000 in
set_option maxRecDepth 100000 in
theorem lc_29 (C : zLC p l e s m below meth c D cy b L xs ah an am af ai aj al ag az i) (hi : i + 5 ≤ L) (hL : L ≤ 2560) (cont : zLs1 p l e s m below meth c D cy b L xs ah an am af ai aj al ag az i 1017) : zLs1 p l e s m below meth c D cy b L xs ah an am af ai aj al ag az i 823 := by
  obtain ⟨⟨hx, hb, hr, hml, hown0, hts, hX, hbl, hlocks, hgv⟩, hK, hN, hC⟩ := C
  intro S Sn Sm Sf Si Sj Sl Sg M H locs ls hP hD hS hI hl
  have hown : s.vm.findClass RL = some m.cls := hown0
  have htB : ∀ w ∈ zB, w.before #[Value.ref b] s = true := fun w h => hts w (List.mem_filter.mp h).1
  have hA : ∀ q : Nat, s.heap.size ≤ q → (fun q : Nat => s.heap.size ≤ q) q := fun _ h => h
  have hbA : ¬ (fun q : Nat => s.heap.size ≤ q) b := Nat.not_le.mpr hbl
  have hin1 : vp_in (nI i + (1 : Int32)) L := by rw [show nI i + (1 : Int32) = nI (i + 1) from nI_add i 1]; exact vp_in_nI (by omega) (by omega)
  have hin2 : vp_in (nI i + (2 : Int32)) L := by rw [show nI i + (2 : Int32) = nI (i + 2) from nI_add i 2]; exact vp_in_nI (by omega) (by omega)
  have hin3 : vp_in (nI i + (3 : Int32)) L := by rw [show nI i + (3 : Int32) = nI (i + 3) from nI_add i 3]; exact vp_in_nI (by omega) (by omega)
  have hin4 : vp_in (nI i + (4 : Int32)) L := by rw [show nI i + (4 : Int32) = nI (i + 4) from nI_add i 4]; exact vp_in_nI (by omega) (by omega)
  refine lv_aload_n hx hb dL_law_823 rfl (lv_at hl 1 rfl) ?_
  refine lv_aload_n hx hb dL_law_824 rfl (lv_at hl 0 rfl) ?_
  refine lv_iload_n hx hb dL_law_825 rfl (lv_at hl 3 rfl) ?_
  refine lv_iconst (v := (1 : Int32)) hx hb dL_law_826 (by decide) ?_
  refine lv_iadd hx hb dL_law_827 ?_
  refine va_sld hx hb hX hbl hbA hS (hin1) dL_law_828 ?_
  refine lv_aload_n hx hb dL_law_829 rfl (lv_at hl 0 rfl) ?_
  refine lv_iload_n hx hb dL_law_830 rfl (lv_at hl 3 rfl) ?_
  refine lv_iconst (v := (2 : Int32)) hx hb dL_law_831 (by decide) ?_
  refine lv_iadd hx hb dL_law_832 ?_
  refine va_sld hx hb hX hbl hbA hS (hin2) dL_law_833 ?_
  refine lv_aload_n hx hb dL_law_834 rfl (lv_at hl 0 rfl) ?_
  refine lv_iload_n hx hb dL_law_835 rfl (lv_at hl 3 rfl) ?_
  refine lv_iconst (v := (3 : Int32)) hx hb dL_law_836 (by decide) ?_
  refine lv_iadd hx hb dL_law_837 ?_
  refine va_sld hx hb hX hbl hbA hS (hin3) dL_law_838 ?_
  have hsp : (zFl [bX4 ah an am af ai aj al ag cy S, bX3 an cy Sn, bX3 am cy Sm, bX0 af cy Sf, bX3 ai cy Si, bX0 aj cy Sj, bX2 al cy Sl, bX1 ag cy Sg, bX5 az cy M]).Perm ((zFl [bX3 am cy Sm, bX3 ai cy Si, bX0 aj cy Sj, bX2 al cy Sl, bX1 ag cy Sg, bX5 az cy M]) ++ ((bX4 ah an am af ai aj al ag cy S) ++ ((bX3 an cy Sn) ++ ((bX0 af cy Sf))))) := zsp (n := 9) rfl [0, 1, 3] [2, 4, 5, 6, 7, 8] (by decide)
  have hPc : va_P D zCl ((bX4 ah an am af ai aj al ag cy S) ++ ((bX3 an cy Sn) ++ ((bX0 af cy Sf)))) H := zP_r (zP_perm hP hsp)
  have hDc : va_D (fun q : Nat => s.heap.size ≤ q) ((bX4 ah an am af ai aj al ag cy S) ++ ((bX3 an cy Sn) ++ ((bX0 af cy Sf)))) := zD_r (zD_perm hD hsp)
  refine zc_p (wd' := fun u => (zFl [bX4 ah an am af ai aj al ag cy (u.1), bX3 an cy Sn, bX3 am cy Sm, bX0 af cy (u.2), bX3 ai cy Si, bX0 aj cy Sj, bX2 al cy Sl, bX1 ag cy Sg, bX5 az cy M])) (va_runV (As := [.int (xs (nI i + (1 : Int32)).toNatClampNeg), .int (xs (nI i + (2 : Int32)).toNatClampNeg), .int (xs (nI i + (3 : Int32)).toNatClampNeg)]) (rest := []) ⟨hx, hb, hml, hown, htB⟩ (c_X4_told l D cy ah an am af ai aj al ag H.size Sn (xs (nI i + (1 : Int32)).toNatClampNeg) (xs (nI i + (2 : Int32)).toNatClampNeg) (xs (nI i + (3 : Int32)).toNatClampNeg) S Sf (ok_told hI)) (cwV 3 htB (zgV zm_740 zm_741 zm_742 zm_4 zm_743) rfl rfl rfl hd_X4_told ⟨Nat.le_of_ble_eq_true rfl, Nat.le_of_ble_eq_true rfl⟩) ⟨zM_blind, va_recv hK hPc (ci := 4) (q0 := 0) rfl rfl, zM_pre hPc hK hN hDc⟩ rfl rfl hl.1 rfl (lv_room (Nat.le_of_ble_eq_true rfl)) dL_law_839 ⟨Nat.le_of_ble_eq_true rfl, Nat.le_of_ble_eq_true rfl⟩) hS hA hP hD hsp (fun u => zsp (n := 9) rfl [0, 1, 3] [2, 4, 5, 6, 7, 8] (by decide)) (fun u => rfl) (fun r1 u H locs h hP hD hS => ?_)
  obtain ⟨S_1, Sf_1⟩ := u
  replace hP : va_P D zCl (zFl [bX4 ah an am af ai aj al ag cy S_1, bX3 an cy Sn, bX3 am cy Sm, bX0 af cy Sf_1, bX3 ai cy Si, bX0 aj cy Sj, bX2 al cy Sl, bX1 ag cy Sg, bX5 az cy M]) H := hP
  replace hD : va_D (fun q : Nat => s.heap.size ≤ q) (zFl [bX4 ah an am af ai aj al ag cy S_1, bX3 an cy Sn, bX3 am cy Sm, bX0 af cy Sf_1, bX3 ai cy Si, bX0 aj cy Sj, bX2 al cy Sl, bX1 ag cy Sg, bX5 az cy M]) := hD
  refine lv_aload_n hx hb dL_law_842 rfl (lv_at hl 2 rfl) ?_
  refine lv_aload_n hx hb dL_law_843 rfl (lv_at hl 0 rfl) ?_
  refine lv_iload_n hx hb dL_law_844 rfl (lv_at hl 3 rfl) ?_
  refine lv_iconst (v := (1 : Int32)) hx hb dL_law_845 (by decide) ?_
  refine lv_iadd hx hb dL_law_846 ?_
  refine va_sld hx hb hX hbl hbA hS (hin1) dL_law_847 ?_
  refine lv_aload_n hx hb dL_law_848 rfl (lv_at hl 0 rfl) ?_
  refine lv_iload_n hx hb dL_law_849 rfl (lv_at hl 3 rfl) ?_
  refine lv_iconst (v := (2 : Int32)) hx hb dL_law_850 (by decide) ?_
  refine lv_iadd hx hb dL_law_851 ?_
  refine va_sld hx hb hX hbl hbA hS (hin2) dL_law_852 ?_
  refine lv_aload_n hx hb dL_law_853 rfl (lv_at hl 0 rfl) ?_
  refine lv_iload_n hx hb dL_law_854 rfl (lv_at hl 3 rfl) ?_
  refine lv_iconst (v := (3 : Int32)) hx hb dL_law_855 (by decide) ?_
  refine lv_iadd hx hb dL_law_856 ?_
  refine va_sld hx hb hX hbl hbA hS (hin3) dL_law_857 ?_
  have hsp : (zFl [bX4 ah an am af ai aj al ag cy S_1, bX3 an cy Sn, bX3 am cy Sm, bX0 af cy Sf_1, bX3 ai cy Si, bX0 aj cy Sj, bX2 al cy Sl, bX1 ag cy Sg, bX5 az cy M]).Perm ((zFl [bX4 ah an am af ai aj al ag cy S_1, bX3 an cy Sn, bX3 am cy Sm, bX0 af cy Sf_1, bX3 ai cy Si, bX0 aj cy Sj, bX2 al cy Sl, bX1 ag cy Sg]) ++ (bX5 az cy M)) := zsp (n := 9) rfl [8] [0, 1, 2, 3, 4, 5, 6, 7] (by decide)
  have hPc : va_P D zCl (bX5 az cy M) H := zP_r (zP_perm hP hsp)
  have hDc : va_D (fun q : Nat => s.heap.size ≤ q) (bX5 az cy M) := zD_r (zD_perm hD hsp)
  refine zc_p (wd' := fun u => (zFl [bX4 ah an am af ai aj al ag cy S_1, bX3 an cy Sn, bX3 am cy Sm, bX0 af cy Sf_1, bX3 ai cy Si, bX0 aj cy Sj, bX2 al cy Sl, bX1 ag cy Sg, bX5 az cy (u)])) (va_runV (As := [.int (xs (nI i + (1 : Int32)).toNatClampNeg), .int (xs (nI i + (2 : Int32)).toNatClampNeg), .int (xs (nI i + (3 : Int32)).toNatClampNeg)]) (rest := [.int r1]) ⟨hx, hb, hml, hown, htB⟩ (c_X5_told l D cy az H.size (xs (nI i + (1 : Int32)).toNatClampNeg) (xs (nI i + (2 : Int32)).toNatClampNeg) (xs (nI i + (3 : Int32)).toNatClampNeg) M (Q := fun r' M' => r' = r1 ∧ Inv S_1 Sn Sf_1 Si Sj Sl M') h) (cwV 3 htB (zgV zm_744 zm_745 zm_746 zm_263 zm_747) rfl rfl rfl hd_X5_told ⟨Nat.le_of_ble_eq_true rfl, Nat.le_of_ble_eq_true rfl⟩) ⟨zM_blind, va_recv hK hPc (ci := 5) (q0 := 0) rfl rfl, zM_pre hPc hK hN hDc⟩ rfl rfl hl.1 rfl (lv_room (Nat.le_of_ble_eq_true rfl)) dL_law_858 ⟨Nat.le_of_ble_eq_true rfl, Nat.le_of_ble_eq_true rfl⟩) hS hA hP hD hsp (fun u => zsp (n := 9) rfl [8] [0, 1, 2, 3, 4, 5, 6, 7] (by decide)) (fun u => rfl) (fun r2 u H locs h hP hD hS => ?_)
  obtain ⟨M_2, eu⟩ : ∃ z, z = u := ⟨_, rfl⟩
  subst eu
  replace hP : va_P D zCl (zFl [bX4 ah an am af ai aj al ag cy S_1, bX3 an cy Sn, bX3 am cy Sm, bX0 af cy Sf_1, bX3 ai cy Si, bX0 aj cy Sj, bX2 al cy Sl, bX1 ag cy Sg, bX5 az cy M_2]) H := hP
  replace hD : va_D (fun q : Nat => s.heap.size ≤ q) (zFl [bX4 ah an am af ai aj al ag cy S_1, bX3 an cy Sn, bX3 am cy Sm, bX0 af cy Sf_1, bX3 ai cy Si, bX0 aj cy Sj, bX2 al cy Sl, bX1 ag cy Sg, bX5 az cy M_2]) := hD
  refine lv_icmp_eq (tgt := 1017) hx hb dL_law_861 (by decide) (fun _ => ?_) (fun cn => absurd h.1.symm cn)
  exact cont S_1 Sn Sm Sf_1 Si Sj Sl Sg M_2 H locs ls hP hD hS h.2 hl
set_option maxHeartbeats 4000000 in
set_option maxRecDepth 100000 in
theorem lc_30 (C : zLC p l e s m below meth c D cy b L xs ah an am af ai aj al ag az i) (hi : i + 5 ≤ L) (hL : L ≤ 2560) (cont : zLs1 p l e s m below meth c D cy b L xs ah an am af ai aj al ag az i 1017) : zLs1 p l e s m below meth c D cy b L xs ah an am af ai aj al ag az i 866 := by
  obtain ⟨⟨hx, hb, hr, hml, hown0, hts, hX, hbl, hlocks, hgv⟩, hK, hN, hC⟩ := C
  intro S Sn Sm Sf Si Sj Sl Sg M H locs ls hP hD hS hI hl
  have hown : s.vm.findClass RL = some m.cls := hown0
  have htB : ∀ w ∈ zB, w.before #[Value.ref b] s = true := fun w h => hts w (List.mem_filter.mp h).1
  have hA : ∀ q : Nat, s.heap.size ≤ q → (fun q : Nat => s.heap.size ≤ q) q := fun _ h => h
  have hbA : ¬ (fun q : Nat => s.heap.size ≤ q) b := Nat.not_le.mpr hbl
  have hin1 : vp_in (nI i + (1 : Int32)) L := by rw [show nI i + (1 : Int32) = nI (i + 1) from nI_add i 1]; exact vp_in_nI (by omega) (by omega)
  have hin2 : vp_in (nI i + (2 : Int32)) L := by rw [show nI i + (2 : Int32) = nI (i + 2) from nI_add i 2]; exact vp_in_nI (by omega) (by omega)
  have hin3 : vp_in (nI i + (3 : Int32)) L := by rw [show nI i + (3 : Int32) = nI (i + 3) from nI_add i 3]; exact vp_in_nI (by omega) (by omega)
  have hin4 : vp_in (nI i + (4 : Int32)) L := by rw [show nI i + (4 : Int32) = nI (i + 4) from nI_add i 4]; exact vp_in_nI (by omega) (by omega)
  refine lv_aload_n hx hb dL_law_866 rfl (lv_at hl 1 rfl) ?_
  refine lv_aload_n hx hb dL_law_867 rfl (lv_at hl 0 rfl) ?_
  refine lv_iload_n hx hb dL_law_868 rfl (lv_at hl 3 rfl) ?_
  refine lv_iconst (v := (1 : Int32)) hx hb dL_law_869 (by decide) ?_
  refine lv_iadd hx hb dL_law_870 ?_
  refine va_sld hx hb hX hbl hbA hS (hin1) dL_law_871 ?_
  refine lv_aload_n hx hb dL_law_872 rfl (lv_at hl 0 rfl) ?_
  refine lv_iload_n hx hb dL_law_873 rfl (lv_at hl 3 rfl) ?_
  refine lv_iconst (v := (2 : Int32)) hx hb dL_law_874 (by decide) ?_
  refine lv_iadd hx hb dL_law_875 ?_
  refine va_sld hx hb hX hbl hbA hS (hin2) dL_law_876 ?_
  have hsp : (zFl [bX4 ah an am af ai aj al ag cy S, bX3 an cy Sn, bX3 am cy Sm, bX0 af cy Sf, bX3 ai cy Si, bX0 aj cy Sj, bX2 al cy Sl, bX1 ag cy Sg, bX5 az cy M]).Perm ((zFl [bX3 an cy Sn, bX3 am cy Sm, bX3 ai cy Si, bX0 aj cy Sj, bX2 al cy Sl, bX1 ag cy Sg, bX5 az cy M]) ++ ((bX4 ah an am af ai aj al ag cy S) ++ ((bX0 af cy Sf)))) := zsp (n := 9) rfl [0, 3] [1, 2, 4, 5, 6, 7, 8] (by decide)
  have hPc : va_P D zCl ((bX4 ah an am af ai aj al ag cy S) ++ ((bX0 af cy Sf))) H := zP_r (zP_perm hP hsp)
  have hDc : va_D (fun q : Nat => s.heap.size ≤ q) ((bX4 ah an am af ai aj al ag cy S) ++ ((bX0 af cy Sf))) := zD_r (zD_perm hD hsp)
  refine zc_p (wd' := fun u => (zFl [bX4 ah an am af ai aj al ag cy (u), bX3 an cy Sn, bX3 am cy Sm, bX0 af cy Sf, bX3 ai cy Si, bX0 aj cy Sj, bX2 al cy Sl, bX1 ag cy Sg, bX5 az cy M])) (va_runV (As := [.int (xs (nI i + (1 : Int32)).toNatClampNeg), .int (xs (nI i + (2 : Int32)).toNatClampNeg)]) (rest := []) ⟨hx, hb, hml, hown, htB⟩ (c_X4_fitting l D cy ah an am af ai aj al ag H.size Sf (xs (nI i + (1 : Int32)).toNatClampNeg) (xs (nI i + (2 : Int32)).toNatClampNeg) S (ok_fitting hI)) (cwV 2 htB (zgV zm_748 zm_749 zm_750 zm_4 zm_751) rfl rfl rfl hd_X4_fitting ⟨Nat.le_of_ble_eq_true rfl, Nat.le_of_ble_eq_true rfl⟩) ⟨zM_blind, va_recv hK hPc (ci := 4) (q0 := 0) rfl rfl, zM_pre hPc hK hN hDc⟩ rfl rfl hl.1 rfl (lv_room (Nat.le_of_ble_eq_true rfl)) dL_law_877 ⟨Nat.le_of_ble_eq_true rfl, Nat.le_of_ble_eq_true rfl⟩) hS hA hP hD hsp (fun u => zsp (n := 9) rfl [0, 3] [1, 2, 4, 5, 6, 7, 8] (by decide)) (fun u => rfl) (fun r1 u H locs h hP hD hS => ?_)
  obtain ⟨S_1, eu⟩ : ∃ z, z = u := ⟨_, rfl⟩
  subst eu
  replace hP : va_P D zCl (zFl [bX4 ah an am af ai aj al ag cy S_1, bX3 an cy Sn, bX3 am cy Sm, bX0 af cy Sf, bX3 ai cy Si, bX0 aj cy Sj, bX2 al cy Sl, bX1 ag cy Sg, bX5 az cy M]) H := hP
  replace hD : va_D (fun q : Nat => s.heap.size ≤ q) (zFl [bX4 ah an am af ai aj al ag cy S_1, bX3 an cy Sn, bX3 am cy Sm, bX0 af cy Sf, bX3 ai cy Si, bX0 aj cy Sj, bX2 al cy Sl, bX1 ag cy Sg, bX5 az cy M]) := hD
  refine lv_aload_n hx hb dL_law_880 rfl (lv_at hl 2 rfl) ?_
  refine lv_aload_n hx hb dL_law_881 rfl (lv_at hl 0 rfl) ?_
  refine lv_iload_n hx hb dL_law_882 rfl (lv_at hl 3 rfl) ?_
  refine lv_iconst (v := (1 : Int32)) hx hb dL_law_883 (by decide) ?_
  refine lv_iadd hx hb dL_law_884 ?_
  refine va_sld hx hb hX hbl hbA hS (hin1) dL_law_885 ?_
  refine lv_aload_n hx hb dL_law_886 rfl (lv_at hl 0 rfl) ?_
  refine lv_iload_n hx hb dL_law_887 rfl (lv_at hl 3 rfl) ?_
  refine lv_iconst (v := (2 : Int32)) hx hb dL_law_888 (by decide) ?_
  refine lv_iadd hx hb dL_law_889 ?_
  refine va_sld hx hb hX hbl hbA hS (hin2) dL_law_890 ?_
  have hsp : (zFl [bX4 ah an am af ai aj al ag cy S_1, bX3 an cy Sn, bX3 am cy Sm, bX0 af cy Sf, bX3 ai cy Si, bX0 aj cy Sj, bX2 al cy Sl, bX1 ag cy Sg, bX5 az cy M]).Perm ((zFl [bX4 ah an am af ai aj al ag cy S_1, bX3 an cy Sn, bX3 am cy Sm, bX0 af cy Sf, bX3 ai cy Si, bX0 aj cy Sj, bX2 al cy Sl, bX1 ag cy Sg]) ++ (bX5 az cy M)) := zsp (n := 9) rfl [8] [0, 1, 2, 3, 4, 5, 6, 7] (by decide)
  have hPc : va_P D zCl (bX5 az cy M) H := zP_r (zP_perm hP hsp)
  have hDc : va_D (fun q : Nat => s.heap.size ≤ q) (bX5 az cy M) := zD_r (zD_perm hD hsp)
  refine zc_p (wd' := fun u => (zFl [bX4 ah an am af ai aj al ag cy S_1, bX3 an cy Sn, bX3 am cy Sm, bX0 af cy Sf, bX3 ai cy Si, bX0 aj cy Sj, bX2 al cy Sl, bX1 ag cy Sg, bX5 az cy (u)])) (va_runV (As := [.int (xs (nI i + (1 : Int32)).toNatClampNeg), .int (xs (nI i + (2 : Int32)).toNatClampNeg)]) (rest := [.int r1]) ⟨hx, hb, hml, hown, htB⟩ (c_X5_fitting l D cy az H.size (xs (nI i + (1 : Int32)).toNatClampNeg) (xs (nI i + (2 : Int32)).toNatClampNeg) M (Q := fun r' M' => r' = r1 ∧ Inv S_1 Sn Sf Si Sj Sl M') h) (cwV 2 htB (zgV zm_752 zm_753 zm_754 zm_263 zm_755) rfl rfl rfl hd_X5_fitting ⟨Nat.le_of_ble_eq_true rfl, Nat.le_of_ble_eq_true rfl⟩) ⟨zM_blind, va_recv hK hPc (ci := 5) (q0 := 0) rfl rfl, zM_pre hPc hK hN hDc⟩ rfl rfl hl.1 rfl (lv_room (Nat.le_of_ble_eq_true rfl)) dL_law_891 ⟨Nat.le_of_ble_eq_true rfl, Nat.le_of_ble_eq_true rfl⟩) hS hA hP hD hsp (fun u => zsp (n := 9) rfl [8] [0, 1, 2, 3, 4, 5, 6, 7] (by decide)) (fun u => rfl) (fun r2 u H locs h hP hD hS => ?_)
  obtain ⟨M_2, eu⟩ : ∃ z, z = u := ⟨_, rfl⟩
  subst eu
  replace hP : va_P D zCl (zFl [bX4 ah an am af ai aj al ag cy S_1, bX3 an cy Sn, bX3 am cy Sm, bX0 af cy Sf, bX3 ai cy Si, bX0 aj cy Sj, bX2 al cy Sl, bX1 ag cy Sg, bX5 az cy M_2]) H := hP
  replace hD : va_D (fun q : Nat => s.heap.size ≤ q) (zFl [bX4 ah an am af ai aj al ag cy S_1, bX3 an cy Sn, bX3 am cy Sm, bX0 af cy Sf, bX3 ai cy Si, bX0 aj cy Sj, bX2 al cy Sl, bX1 ag cy Sg, bX5 az cy M_2]) := hD
  refine lv_icmp_eq (tgt := 1017) hx hb dL_law_894 (by decide) (fun _ => ?_) (fun cn => absurd h.1.symm cn)
  exact cont S_1 Sn Sm Sf Si Sj Sl Sg M_2 H locs ls hP hD hS h.2 hl
set_option maxHeartbeats 4000000 in
set_option maxRecDepth 100000 in
theorem lc_31 (C : zLC p l e s m below meth c D cy b L xs ah an am af ai aj al ag az i) (hi : i + 5 ≤ L) (hL : L ≤ 2560) (cont : zLs1 p l e s m below meth c D cy b L xs ah an am af ai aj al ag az i 1017) : zLs1 p l e s m below meth c D cy b L xs ah an am af ai aj al ag az i 899 := by
  obtain ⟨⟨hx, hb, hr, hml, hown0, hts, hX, hbl, hlocks, hgv⟩, hK, hN, hC⟩ := C
  intro S Sn Sm Sf Si Sj Sl Sg M H locs ls hP hD hS hI hl
  have hown : s.vm.findClass RL = some m.cls := hown0
  have htB : ∀ w ∈ zB, w.before #[Value.ref b] s = true := fun w h => hts w (List.mem_filter.mp h).1
  have hA : ∀ q : Nat, s.heap.size ≤ q → (fun q : Nat => s.heap.size ≤ q) q := fun _ h => h
  have hbA : ¬ (fun q : Nat => s.heap.size ≤ q) b := Nat.not_le.mpr hbl
  have hin1 : vp_in (nI i + (1 : Int32)) L := by rw [show nI i + (1 : Int32) = nI (i + 1) from nI_add i 1]; exact vp_in_nI (by omega) (by omega)
  have hin2 : vp_in (nI i + (2 : Int32)) L := by rw [show nI i + (2 : Int32) = nI (i + 2) from nI_add i 2]; exact vp_in_nI (by omega) (by omega)
  have hin3 : vp_in (nI i + (3 : Int32)) L := by rw [show nI i + (3 : Int32) = nI (i + 3) from nI_add i 3]; exact vp_in_nI (by omega) (by omega)
  have hin4 : vp_in (nI i + (4 : Int32)) L := by rw [show nI i + (4 : Int32) = nI (i + 4) from nI_add i 4]; exact vp_in_nI (by omega) (by omega)
  refine lv_aload_n hx hb dL_law_899 rfl (lv_at hl 1 rfl) ?_
  refine lv_aload_n hx hb dL_law_900 rfl (lv_at hl 0 rfl) ?_
  refine lv_iload_n hx hb dL_law_901 rfl (lv_at hl 3 rfl) ?_
  refine lv_iconst (v := (1 : Int32)) hx hb dL_law_902 (by decide) ?_
  refine lv_iadd hx hb dL_law_903 ?_
  refine va_sld hx hb hX hbl hbA hS (hin1) dL_law_904 ?_
  refine lv_aload_n hx hb dL_law_905 rfl (lv_at hl 0 rfl) ?_
  refine lv_iload_n hx hb dL_law_906 rfl (lv_at hl 3 rfl) ?_
  refine lv_iconst (v := (2 : Int32)) hx hb dL_law_907 (by decide) ?_
  refine lv_iadd hx hb dL_law_908 ?_
  refine va_sld hx hb hX hbl hbA hS (hin2) dL_law_909 ?_
  have hsp : (zFl [bX4 ah an am af ai aj al ag cy S, bX3 an cy Sn, bX3 am cy Sm, bX0 af cy Sf, bX3 ai cy Si, bX0 aj cy Sj, bX2 al cy Sl, bX1 ag cy Sg, bX5 az cy M]).Perm ((zFl [bX0 af cy Sf, bX3 ai cy Si, bX0 aj cy Sj, bX2 al cy Sl, bX5 az cy M]) ++ ((bX4 ah an am af ai aj al ag cy S) ++ ((bX3 an cy Sn) ++ ((bX3 am cy Sm) ++ ((bX1 ag cy Sg)))))) := zsp (n := 9) rfl [0, 1, 2, 7] [3, 4, 5, 6, 8] (by decide)
  have hPc : va_P D zCl ((bX4 ah an am af ai aj al ag cy S) ++ ((bX3 an cy Sn) ++ ((bX3 am cy Sm) ++ ((bX1 ag cy Sg))))) H := zP_r (zP_perm hP hsp)
  have hDc : va_D (fun q : Nat => s.heap.size ≤ q) ((bX4 ah an am af ai aj al ag cy S) ++ ((bX3 an cy Sn) ++ ((bX3 am cy Sm) ++ ((bX1 ag cy Sg))))) := zD_r (zD_perm hD hsp)
  refine zc_p (wd' := fun u => (zFl [bX4 ah an am af ai aj al ag cy (u.1), bX3 an cy Sn, bX3 am cy (u.2.1), bX0 af cy Sf, bX3 ai cy Si, bX0 aj cy Sj, bX2 al cy Sl, bX1 ag cy (u.2.2), bX5 az cy M])) (va_runV (As := [.int (xs (nI i + (1 : Int32)).toNatClampNeg), .int (xs (nI i + (2 : Int32)).toNatClampNeg)]) (rest := []) ⟨hx, hb, hml, hown, htB⟩ (c_X4_seeds l D cy ah an am af ai aj al ag H.size Sn (xs (nI i + (1 : Int32)).toNatClampNeg) (xs (nI i + (2 : Int32)).toNatClampNeg) S Sm Sg (ok_seeds hI)) (cwV 2 htB (zgV zm_756 zm_757 zm_758 zm_4 zm_759) rfl rfl rfl hd_X4_seeds ⟨Nat.le_of_ble_eq_true rfl, Nat.le_of_ble_eq_true rfl⟩) ⟨zM_blind, va_recv hK hPc (ci := 4) (q0 := 0) rfl rfl, zM_pre hPc hK hN hDc⟩ rfl rfl hl.1 rfl (lv_room (Nat.le_of_ble_eq_true rfl)) dL_law_910 ⟨Nat.le_of_ble_eq_true rfl, Nat.le_of_ble_eq_true rfl⟩) hS hA hP hD hsp (fun u => zsp (n := 9) rfl [0, 1, 2, 7] [3, 4, 5, 6, 8] (by decide)) (fun u => rfl) (fun r1 u H locs h hP hD hS => ?_)
  obtain ⟨S_1, Sm_1, Sg_1⟩ := u
  replace hP : va_P D zCl (zFl [bX4 ah an am af ai aj al ag cy S_1, bX3 an cy Sn, bX3 am cy Sm_1, bX0 af cy Sf, bX3 ai cy Si, bX0 aj cy Sj, bX2 al cy Sl, bX1 ag cy Sg_1, bX5 az cy M]) H := hP
  replace hD : va_D (fun q : Nat => s.heap.size ≤ q) (zFl [bX4 ah an am af ai aj al ag cy S_1, bX3 an cy Sn, bX3 am cy Sm_1, bX0 af cy Sf, bX3 ai cy Si, bX0 aj cy Sj, bX2 al cy Sl, bX1 ag cy Sg_1, bX5 az cy M]) := hD
  refine lv_aload_n hx hb dL_law_913 rfl (lv_at hl 2 rfl) ?_
  refine lv_aload_n hx hb dL_law_914 rfl (lv_at hl 0 rfl) ?_
  refine lv_iload_n hx hb dL_law_915 rfl (lv_at hl 3 rfl) ?_
  refine lv_iconst (v := (1 : Int32)) hx hb dL_law_916 (by decide) ?_
  refine lv_iadd hx hb dL_law_917 ?_
  refine va_sld hx hb hX hbl hbA hS (hin1) dL_law_918 ?_
  refine lv_aload_n hx hb dL_law_919 rfl (lv_at hl 0 rfl) ?_
  refine lv_iload_n hx hb dL_law_920 rfl (lv_at hl 3 rfl) ?_
  refine lv_iconst (v := (2 : Int32)) hx hb dL_law_921 (by decide) ?_
  refine lv_iadd hx hb dL_law_922 ?_
  refine va_sld hx hb hX hbl hbA hS (hin2) dL_law_923 ?_
  have hsp : (zFl [bX4 ah an am af ai aj al ag cy S_1, bX3 an cy Sn, bX3 am cy Sm_1, bX0 af cy Sf, bX3 ai cy Si, bX0 aj cy Sj, bX2 al cy Sl, bX1 ag cy Sg_1, bX5 az cy M]).Perm ((zFl [bX4 ah an am af ai aj al ag cy S_1, bX3 an cy Sn, bX3 am cy Sm_1, bX0 af cy Sf, bX3 ai cy Si, bX0 aj cy Sj, bX2 al cy Sl, bX1 ag cy Sg_1]) ++ (bX5 az cy M)) := zsp (n := 9) rfl [8] [0, 1, 2, 3, 4, 5, 6, 7] (by decide)
  have hPc : va_P D zCl (bX5 az cy M) H := zP_r (zP_perm hP hsp)
  have hDc : va_D (fun q : Nat => s.heap.size ≤ q) (bX5 az cy M) := zD_r (zD_perm hD hsp)
  refine zc_p (wd' := fun u => (zFl [bX4 ah an am af ai aj al ag cy S_1, bX3 an cy Sn, bX3 am cy Sm_1, bX0 af cy Sf, bX3 ai cy Si, bX0 aj cy Sj, bX2 al cy Sl, bX1 ag cy Sg_1, bX5 az cy (u)])) (va_runV (As := [.int (xs (nI i + (1 : Int32)).toNatClampNeg), .int (xs (nI i + (2 : Int32)).toNatClampNeg)]) (rest := [.int r1]) ⟨hx, hb, hml, hown, htB⟩ (c_X5_seeds l D cy az H.size (xs (nI i + (1 : Int32)).toNatClampNeg) (xs (nI i + (2 : Int32)).toNatClampNeg) M (Q := fun r' M' => r' = r1 ∧ Inv S_1 Sn Sf Si Sj Sl M') h) (cwV 2 htB (zgV zm_760 zm_761 zm_762 zm_263 zm_763) rfl rfl rfl hd_X5_seeds ⟨Nat.le_of_ble_eq_true rfl, Nat.le_of_ble_eq_true rfl⟩) ⟨zM_blind, va_recv hK hPc (ci := 5) (q0 := 0) rfl rfl, zM_pre hPc hK hN hDc⟩ rfl rfl hl.1 rfl (lv_room (Nat.le_of_ble_eq_true rfl)) dL_law_924 ⟨Nat.le_of_ble_eq_true rfl, Nat.le_of_ble_eq_true rfl⟩) hS hA hP hD hsp (fun u => zsp (n := 9) rfl [8] [0, 1, 2, 3, 4, 5, 6, 7] (by decide)) (fun u => rfl) (fun r2 u H locs h hP hD hS => ?_)
  obtain ⟨M_2, eu⟩ : ∃ z, z = u := ⟨_, rfl⟩
  subst eu
  replace hP : va_P D zCl (zFl [bX4 ah an am af ai aj al ag cy S_1, bX3 an cy Sn, bX3 am cy Sm_1, bX0 af cy Sf, bX3 ai cy Si, bX0 aj cy Sj, bX2 al cy Sl, bX1 ag cy Sg_1, bX5 az cy M_2]) H := hP
  replace hD : va_D (fun q : Nat => s.heap.size ≤ q) (zFl [bX4 ah an am af ai aj al ag cy S_1, bX3 an cy Sn, bX3 am cy Sm_1, bX0 af cy Sf, bX3 ai cy Si, bX0 aj cy Sj, bX2 al cy Sl, bX1 ag cy Sg_1, bX5 az cy M_2]) := hD
  refine lv_icmp_eq (tgt := 1017) hx hb dL_law_927 (by decide) (fun _ => ?_) (fun cn => absurd h.1.symm cn)
  exact cont S_1 Sn Sm_1 Sf Si Sj Sl Sg_1 M_2 H locs ls hP hD hS h.2 hl
set_option maxHeartbeats 4000000 in
set_option maxRecDepth 100000 in
theorem lc_32 (C : zLC p l e s m below meth c D cy b L xs ah an am af ai aj al ag az i) (hi : i + 5 ≤ L) (hL : L ≤ 2560) (cont : zLs1 p l e s m below meth c D cy b L xs ah an am af ai aj al ag az i 1017) : zLs1 p l e s m below meth c D cy b L xs ah an am af ai aj al ag az i 932 := by
  obtain ⟨⟨hx, hb, hr, hml, hown0, hts, hX, hbl, hlocks, hgv⟩, hK, hN, hC⟩ := C
  intro S Sn Sm Sf Si Sj Sl Sg M H locs ls hP hD hS hI hl
  have hown : s.vm.findClass RL = some m.cls := hown0
  have htB : ∀ w ∈ zB, w.before #[Value.ref b] s = true := fun w h => hts w (List.mem_filter.mp h).1
  have hA : ∀ q : Nat, s.heap.size ≤ q → (fun q : Nat => s.heap.size ≤ q) q := fun _ h => h
  have hbA : ¬ (fun q : Nat => s.heap.size ≤ q) b := Nat.not_le.mpr hbl
  have hin1 : vp_in (nI i + (1 : Int32)) L := by rw [show nI i + (1 : Int32) = nI (i + 1) from nI_add i 1]; exact vp_in_nI (by omega) (by omega)
  have hin2 : vp_in (nI i + (2 : Int32)) L := by rw [show nI i + (2 : Int32) = nI (i + 2) from nI_add i 2]; exact vp_in_nI (by omega) (by omega)
  have hin3 : vp_in (nI i + (3 : Int32)) L := by rw [show nI i + (3 : Int32) = nI (i + 3) from nI_add i 3]; exact vp_in_nI (by omega) (by omega)
  have hin4 : vp_in (nI i + (4 : Int32)) L := by rw [show nI i + (4 : Int32) = nI (i + 4) from nI_add i 4]; exact vp_in_nI (by omega) (by omega)
  refine lv_aload_n hx hb dL_law_932 rfl (lv_at hl 1 rfl) ?_
  refine lv_aload_n hx hb dL_law_933 rfl (lv_at hl 0 rfl) ?_
  refine lv_iload_n hx hb dL_law_934 rfl (lv_at hl 3 rfl) ?_
  refine lv_iconst (v := (1 : Int32)) hx hb dL_law_935 (by decide) ?_
  refine lv_iadd hx hb dL_law_936 ?_
  refine va_sld hx hb hX hbl hbA hS (hin1) dL_law_937 ?_
  have hsp : (zFl [bX4 ah an am af ai aj al ag cy S, bX3 an cy Sn, bX3 am cy Sm, bX0 af cy Sf, bX3 ai cy Si, bX0 aj cy Sj, bX2 al cy Sl, bX1 ag cy Sg, bX5 az cy M]).Perm ((zFl [bX3 an cy Sn, bX3 am cy Sm, bX0 af cy Sf, bX3 ai cy Si, bX0 aj cy Sj, bX2 al cy Sl, bX1 ag cy Sg, bX5 az cy M]) ++ (bX4 ah an am af ai aj al ag cy S)) := zsp (n := 9) rfl [0] [1, 2, 3, 4, 5, 6, 7, 8] (by decide)
  have hPc : va_P D zCl (bX4 ah an am af ai aj al ag cy S) H := zP_r (zP_perm hP hsp)
  have hDc : va_D (fun q : Nat => s.heap.size ≤ q) (bX4 ah an am af ai aj al ag cy S) := zD_r (zD_perm hD hsp)
  refine zc_p (wd' := fun u => (zFl [bX4 ah an am af ai aj al ag cy (u), bX3 an cy Sn, bX3 am cy Sm, bX0 af cy Sf, bX3 ai cy Si, bX0 aj cy Sj, bX2 al cy Sl, bX1 ag cy Sg, bX5 az cy M])) (va_runV (As := [.int (xs (nI i + (1 : Int32)).toNatClampNeg)]) (rest := []) ⟨hx, hb, hml, hown, htB⟩ (c_X4_row l D cy ah an am af ai aj al ag H.size (xs (nI i + (1 : Int32)).toNatClampNeg) S (ok_row hI)) (cwV 1 htB (zgV zm_764 zm_765 zm_766 zm_4 zm_767) rfl rfl rfl hd_X4_row ⟨Nat.le_of_ble_eq_true rfl, Nat.le_of_ble_eq_true rfl⟩) ⟨zM_blind, va_recv hK hPc (ci := 4) (q0 := 0) rfl rfl, zM_pre hPc hK hN hDc⟩ rfl rfl hl.1 rfl (lv_room (Nat.le_of_ble_eq_true rfl)) dL_law_938 ⟨Nat.le_of_ble_eq_true rfl, Nat.le_of_ble_eq_true rfl⟩) hS hA hP hD hsp (fun u => zsp (n := 9) rfl [0] [1, 2, 3, 4, 5, 6, 7, 8] (by decide)) (fun u => rfl) (fun r1 u H locs h hP hD hS => ?_)
  obtain ⟨S_1, eu⟩ : ∃ z, z = u := ⟨_, rfl⟩
  subst eu
  replace hP : va_P D zCl (zFl [bX4 ah an am af ai aj al ag cy S_1, bX3 an cy Sn, bX3 am cy Sm, bX0 af cy Sf, bX3 ai cy Si, bX0 aj cy Sj, bX2 al cy Sl, bX1 ag cy Sg, bX5 az cy M]) H := hP
  replace hD : va_D (fun q : Nat => s.heap.size ≤ q) (zFl [bX4 ah an am af ai aj al ag cy S_1, bX3 an cy Sn, bX3 am cy Sm, bX0 af cy Sf, bX3 ai cy Si, bX0 aj cy Sj, bX2 al cy Sl, bX1 ag cy Sg, bX5 az cy M]) := hD
  refine lv_aload_n hx hb dL_law_941 rfl (lv_at hl 2 rfl) ?_
  refine lv_aload_n hx hb dL_law_942 rfl (lv_at hl 0 rfl) ?_
  refine lv_iload_n hx hb dL_law_943 rfl (lv_at hl 3 rfl) ?_
  refine lv_iconst (v := (1 : Int32)) hx hb dL_law_944 (by decide) ?_
  refine lv_iadd hx hb dL_law_945 ?_
  refine va_sld hx hb hX hbl hbA hS (hin1) dL_law_946 ?_
  have hsp : (zFl [bX4 ah an am af ai aj al ag cy S_1, bX3 an cy Sn, bX3 am cy Sm, bX0 af cy Sf, bX3 ai cy Si, bX0 aj cy Sj, bX2 al cy Sl, bX1 ag cy Sg, bX5 az cy M]).Perm ((zFl [bX4 ah an am af ai aj al ag cy S_1, bX3 an cy Sn, bX3 am cy Sm, bX0 af cy Sf, bX3 ai cy Si, bX0 aj cy Sj, bX2 al cy Sl, bX1 ag cy Sg]) ++ (bX5 az cy M)) := zsp (n := 9) rfl [8] [0, 1, 2, 3, 4, 5, 6, 7] (by decide)
  have hPc : va_P D zCl (bX5 az cy M) H := zP_r (zP_perm hP hsp)
  have hDc : va_D (fun q : Nat => s.heap.size ≤ q) (bX5 az cy M) := zD_r (zD_perm hD hsp)
  refine zc_p (wd' := fun u => (zFl [bX4 ah an am af ai aj al ag cy S_1, bX3 an cy Sn, bX3 am cy Sm, bX0 af cy Sf, bX3 ai cy Si, bX0 aj cy Sj, bX2 al cy Sl, bX1 ag cy Sg, bX5 az cy (u)])) (va_runV (As := [.int (xs (nI i + (1 : Int32)).toNatClampNeg)]) (rest := [.int r1]) ⟨hx, hb, hml, hown, htB⟩ (c_X5_row l D cy az H.size (xs (nI i + (1 : Int32)).toNatClampNeg) M (Q := fun r' M' => r' = r1 ∧ Inv S_1 Sn Sf Si Sj Sl M') h) (cwV 1 htB (zgV zm_768 zm_769 zm_770 zm_263 zm_771) rfl rfl rfl hd_X5_row ⟨Nat.le_of_ble_eq_true rfl, Nat.le_of_ble_eq_true rfl⟩) ⟨zM_blind, va_recv hK hPc (ci := 5) (q0 := 0) rfl rfl, zM_pre hPc hK hN hDc⟩ rfl rfl hl.1 rfl (lv_room (Nat.le_of_ble_eq_true rfl)) dL_law_947 ⟨Nat.le_of_ble_eq_true rfl, Nat.le_of_ble_eq_true rfl⟩) hS hA hP hD hsp (fun u => zsp (n := 9) rfl [8] [0, 1, 2, 3, 4, 5, 6, 7] (by decide)) (fun u => rfl) (fun r2 u H locs h hP hD hS => ?_)
  obtain ⟨M_2, eu⟩ : ∃ z, z = u := ⟨_, rfl⟩
  subst eu
  replace hP : va_P D zCl (zFl [bX4 ah an am af ai aj al ag cy S_1, bX3 an cy Sn, bX3 am cy Sm, bX0 af cy Sf, bX3 ai cy Si, bX0 aj cy Sj, bX2 al cy Sl, bX1 ag cy Sg, bX5 az cy M_2]) H := hP
  replace hD : va_D (fun q : Nat => s.heap.size ≤ q) (zFl [bX4 ah an am af ai aj al ag cy S_1, bX3 an cy Sn, bX3 am cy Sm, bX0 af cy Sf, bX3 ai cy Si, bX0 aj cy Sj, bX2 al cy Sl, bX1 ag cy Sg, bX5 az cy M_2]) := hD
  refine lv_icmp_eq (tgt := 1017) hx hb dL_law_950 (by decide) (fun _ => ?_) (fun cn => absurd h.1.symm cn)
  exact cont S_1 Sn Sm Sf Si Sj Sl Sg M_2 H locs ls hP hD hS h.2 hl
set_option maxHeartbeats 4000000 in
set_option maxRecDepth 100000 in
theorem lc_33 (C : zLC p l e s m below meth c D cy b L xs ah an am af ai aj al ag az i) (hi : i + 5 ≤ L) (hL : L ≤ 2560) (cont : zLs1 p l e s m below meth c D cy b L xs ah an am af ai aj al ag az i 1017) : zLs1 p l e s m below meth c D cy b L xs ah an am af ai aj al ag az i 955 := by
  obtain ⟨⟨hx, hb, hr, hml, hown0, hts, hX, hbl, hlocks, hgv⟩, hK, hN, hC⟩ := C
  intro S Sn Sm Sf Si Sj Sl Sg M H locs ls hP hD hS hI hl
  have hown : s.vm.findClass RL = some m.cls := hown0
  have htB : ∀ w ∈ zB, w.before #[Value.ref b] s = true := fun w h => hts w (List.mem_filter.mp h).1
  have hA : ∀ q : Nat, s.heap.size ≤ q → (fun q : Nat => s.heap.size ≤ q) q := fun _ h => h
  have hbA : ¬ (fun q : Nat => s.heap.size ≤ q) b := Nat.not_le.mpr hbl
  have hin1 : vp_in (nI i + (1 : Int32)) L := by rw [show nI i + (1 : Int32) = nI (i + 1) from nI_add i 1]; exact vp_in_nI (by omega) (by omega)
  have hin2 : vp_in (nI i + (2 : Int32)) L := by rw [show nI i + (2 : Int32) = nI (i + 2) from nI_add i 2]; exact vp_in_nI (by omega) (by omega)
  have hin3 : vp_in (nI i + (3 : Int32)) L := by rw [show nI i + (3 : Int32) = nI (i + 3) from nI_add i 3]; exact vp_in_nI (by omega) (by omega)
  have hin4 : vp_in (nI i + (4 : Int32)) L := by rw [show nI i + (4 : Int32) = nI (i + 4) from nI_add i 4]; exact vp_in_nI (by omega) (by omega)
  refine lv_aload_n hx hb dL_law_955 rfl (lv_at hl 1 rfl) ?_
  have hsp : (zFl [bX4 ah an am af ai aj al ag cy S, bX3 an cy Sn, bX3 am cy Sm, bX0 af cy Sf, bX3 ai cy Si, bX0 aj cy Sj, bX2 al cy Sl, bX1 ag cy Sg, bX5 az cy M]).Perm ((zFl [bX3 am cy Sm, bX0 af cy Sf, bX3 ai cy Si, bX0 aj cy Sj, bX2 al cy Sl, bX5 az cy M]) ++ ((bX4 ah an am af ai aj al ag cy S) ++ ((bX3 an cy Sn) ++ ((bX1 ag cy Sg))))) := zsp (n := 9) rfl [0, 1, 7] [2, 3, 4, 5, 6, 8] (by decide)
  have hPc : va_P D zCl ((bX4 ah an am af ai aj al ag cy S) ++ ((bX3 an cy Sn) ++ ((bX1 ag cy Sg)))) H := zP_r (zP_perm hP hsp)
  have hDc : va_D (fun q : Nat => s.heap.size ≤ q) ((bX4 ah an am af ai aj al ag cy S) ++ ((bX3 an cy Sn) ++ ((bX1 ag cy Sg)))) := zD_r (zD_perm hD hsp)
  refine zc_p (wd' := fun u => (zFl [bX4 ah an am af ai aj al ag cy (u.1), bX3 an cy Sn, bX3 am cy Sm, bX0 af cy Sf, bX3 ai cy Si, bX0 aj cy Sj, bX2 al cy Sl, bX1 ag cy (u.2), bX5 az cy M])) (va_runV (As := []) (rest := []) ⟨hx, hb, hml, hown, htB⟩ (c_X4_judge l D cy ah an am af ai aj al ag H.size Sn S Sg (ok_judge hI)) (cwV 0 htB (zgV zm_772 zm_773 zm_774 zm_4 zm_775) rfl rfl rfl hd_X4_judge ⟨Nat.le_of_ble_eq_true rfl, Nat.le_of_ble_eq_true rfl⟩) ⟨zM_blind, va_recv hK hPc (ci := 4) (q0 := 0) rfl rfl, zM_pre hPc hK hN hDc⟩ rfl rfl hl.1 rfl (lv_room (Nat.le_of_ble_eq_true rfl)) dL_law_956 ⟨Nat.le_of_ble_eq_true rfl, Nat.le_of_ble_eq_true rfl⟩) hS hA hP hD hsp (fun u => zsp (n := 9) rfl [0, 1, 7] [2, 3, 4, 5, 6, 8] (by decide)) (fun u => rfl) (fun r1 u H locs h hP hD hS => ?_)
  obtain ⟨S_1, Sg_1⟩ := u
  replace hP : va_P D zCl (zFl [bX4 ah an am af ai aj al ag cy S_1, bX3 an cy Sn, bX3 am cy Sm, bX0 af cy Sf, bX3 ai cy Si, bX0 aj cy Sj, bX2 al cy Sl, bX1 ag cy Sg_1, bX5 az cy M]) H := hP
  replace hD : va_D (fun q : Nat => s.heap.size ≤ q) (zFl [bX4 ah an am af ai aj al ag cy S_1, bX3 an cy Sn, bX3 am cy Sm, bX0 af cy Sf, bX3 ai cy Si, bX0 aj cy Sj, bX2 al cy Sl, bX1 ag cy Sg_1, bX5 az cy M]) := hD
  refine lv_aload_n hx hb dL_law_959 rfl (lv_at hl 2 rfl) ?_
  have hsp : (zFl [bX4 ah an am af ai aj al ag cy S_1, bX3 an cy Sn, bX3 am cy Sm, bX0 af cy Sf, bX3 ai cy Si, bX0 aj cy Sj, bX2 al cy Sl, bX1 ag cy Sg_1, bX5 az cy M]).Perm ((zFl [bX4 ah an am af ai aj al ag cy S_1, bX3 an cy Sn, bX3 am cy Sm, bX0 af cy Sf, bX3 ai cy Si, bX0 aj cy Sj, bX2 al cy Sl, bX1 ag cy Sg_1]) ++ (bX5 az cy M)) := zsp (n := 9) rfl [8] [0, 1, 2, 3, 4, 5, 6, 7] (by decide)
  have hPc : va_P D zCl (bX5 az cy M) H := zP_r (zP_perm hP hsp)
  have hDc : va_D (fun q : Nat => s.heap.size ≤ q) (bX5 az cy M) := zD_r (zD_perm hD hsp)
  refine zc_p (wd' := fun u => (zFl [bX4 ah an am af ai aj al ag cy S_1, bX3 an cy Sn, bX3 am cy Sm, bX0 af cy Sf, bX3 ai cy Si, bX0 aj cy Sj, bX2 al cy Sl, bX1 ag cy Sg_1, bX5 az cy (u)])) (va_runV (As := []) (rest := [.int r1]) ⟨hx, hb, hml, hown, htB⟩ (c_X5_judge l D cy az H.size M (Q := fun r' M' => r' = r1 ∧ Inv S_1 Sn Sf Si Sj Sl M') h) (cwV 0 htB (zgV zm_776 zm_777 zm_778 zm_263 zm_779) rfl rfl rfl hd_X5_judge ⟨Nat.le_of_ble_eq_true rfl, Nat.le_of_ble_eq_true rfl⟩) ⟨zM_blind, va_recv hK hPc (ci := 5) (q0 := 0) rfl rfl, zM_pre hPc hK hN hDc⟩ rfl rfl hl.1 rfl (lv_room (Nat.le_of_ble_eq_true rfl)) dL_law_960 ⟨Nat.le_of_ble_eq_true rfl, Nat.le_of_ble_eq_true rfl⟩) hS hA hP hD hsp (fun u => zsp (n := 9) rfl [8] [0, 1, 2, 3, 4, 5, 6, 7] (by decide)) (fun u => rfl) (fun r2 u H locs h hP hD hS => ?_)
  obtain ⟨M_2, eu⟩ : ∃ z, z = u := ⟨_, rfl⟩
  subst eu
  replace hP : va_P D zCl (zFl [bX4 ah an am af ai aj al ag cy S_1, bX3 an cy Sn, bX3 am cy Sm, bX0 af cy Sf, bX3 ai cy Si, bX0 aj cy Sj, bX2 al cy Sl, bX1 ag cy Sg_1, bX5 az cy M_2]) H := hP
  replace hD : va_D (fun q : Nat => s.heap.size ≤ q) (zFl [bX4 ah an am af ai aj al ag cy S_1, bX3 an cy Sn, bX3 am cy Sm, bX0 af cy Sf, bX3 ai cy Si, bX0 aj cy Sj, bX2 al cy Sl, bX1 ag cy Sg_1, bX5 az cy M_2]) := hD
  refine lv_icmp_eq (tgt := 1017) hx hb dL_law_963 (by decide) (fun _ => ?_) (fun cn => absurd h.1.symm cn)
  exact cont S_1 Sn Sm Sf Si Sj Sl Sg_1 M_2 H locs ls hP hD hS h.2 hl
set_option maxHeartbeats 4000000 in
set_option maxRecDepth 100000 in
theorem lc_34 (C : zLC p l e s m below meth c D cy b L xs ah an am af ai aj al ag az i) (hi : i + 5 ≤ L) (hL : L ≤ 2560) (cont : zLs1 p l e s m below meth c D cy b L xs ah an am af ai aj al ag az i 1017) : zLs1 p l e s m below meth c D cy b L xs ah an am af ai aj al ag az i 968 := by
  obtain ⟨⟨hx, hb, hr, hml, hown0, hts, hX, hbl, hlocks, hgv⟩, hK, hN, hC⟩ := C
  intro S Sn Sm Sf Si Sj Sl Sg M H locs ls hP hD hS hI hl
  have hown : s.vm.findClass RL = some m.cls := hown0
  have htB : ∀ w ∈ zB, w.before #[Value.ref b] s = true := fun w h => hts w (List.mem_filter.mp h).1
  have hA : ∀ q : Nat, s.heap.size ≤ q → (fun q : Nat => s.heap.size ≤ q) q := fun _ h => h
  have hbA : ¬ (fun q : Nat => s.heap.size ≤ q) b := Nat.not_le.mpr hbl
  have hin1 : vp_in (nI i + (1 : Int32)) L := by rw [show nI i + (1 : Int32) = nI (i + 1) from nI_add i 1]; exact vp_in_nI (by omega) (by omega)
  have hin2 : vp_in (nI i + (2 : Int32)) L := by rw [show nI i + (2 : Int32) = nI (i + 2) from nI_add i 2]; exact vp_in_nI (by omega) (by omega)
  have hin3 : vp_in (nI i + (3 : Int32)) L := by rw [show nI i + (3 : Int32) = nI (i + 3) from nI_add i 3]; exact vp_in_nI (by omega) (by omega)
  have hin4 : vp_in (nI i + (4 : Int32)) L := by rw [show nI i + (4 : Int32) = nI (i + 4) from nI_add i 4]; exact vp_in_nI (by omega) (by omega)
  refine lv_aload_n hx hb dL_law_968 rfl (lv_at hl 1 rfl) ?_
  have hsp : (zFl [bX4 ah an am af ai aj al ag cy S, bX3 an cy Sn, bX3 am cy Sm, bX0 af cy Sf, bX3 ai cy Si, bX0 aj cy Sj, bX2 al cy Sl, bX1 ag cy Sg, bX5 az cy M]).Perm ((zFl [bX3 am cy Sm, bX2 al cy Sl, bX1 ag cy Sg, bX5 az cy M]) ++ ((bX4 ah an am af ai aj al ag cy S) ++ ((bX3 an cy Sn) ++ ((bX0 af cy Sf) ++ ((bX3 ai cy Si) ++ ((bX0 aj cy Sj))))))) := zsp (n := 9) rfl [0, 1, 3, 4, 5] [2, 6, 7, 8] (by decide)
  have hPc : va_P D zCl ((bX4 ah an am af ai aj al ag cy S) ++ ((bX3 an cy Sn) ++ ((bX0 af cy Sf) ++ ((bX3 ai cy Si) ++ ((bX0 aj cy Sj)))))) H := zP_r (zP_perm hP hsp)
  have hDc : va_D (fun q : Nat => s.heap.size ≤ q) ((bX4 ah an am af ai aj al ag cy S) ++ ((bX3 an cy Sn) ++ ((bX0 af cy Sf) ++ ((bX3 ai cy Si) ++ ((bX0 aj cy Sj)))))) := zD_r (zD_perm hD hsp)
  refine zc_p (wd' := fun u => (zFl [bX4 ah an am af ai aj al ag cy (u.1), bX3 an cy Sn, bX3 am cy Sm, bX0 af cy Sf, bX3 ai cy (u.2.1), bX0 aj cy (u.2.2), bX2 al cy Sl, bX1 ag cy Sg, bX5 az cy M])) (va_runV (As := []) (rest := []) ⟨hx, hb, hml, hown, htB⟩ (c_X4_image l D cy ah an am af ai aj al ag H.size Sn Sf S Si Sj (ok_image hI)) (cwV 0 htB (zgV zm_780 zm_781 zm_782 zm_4 zm_783) rfl rfl rfl hd_X4_image ⟨Nat.le_of_ble_eq_true rfl, Nat.le_of_ble_eq_true rfl⟩) ⟨zM_blind, va_recv hK hPc (ci := 4) (q0 := 0) rfl rfl, zM_pre hPc hK hN hDc⟩ rfl rfl hl.1 rfl (lv_room (Nat.le_of_ble_eq_true rfl)) dL_law_969 ⟨Nat.le_of_ble_eq_true rfl, Nat.le_of_ble_eq_true rfl⟩) hS hA hP hD hsp (fun u => zsp (n := 9) rfl [0, 1, 3, 4, 5] [2, 6, 7, 8] (by decide)) (fun u => rfl) (fun r1 u H locs h hP hD hS => ?_)
  obtain ⟨S_1, Si_1, Sj_1⟩ := u
  replace hP : va_P D zCl (zFl [bX4 ah an am af ai aj al ag cy S_1, bX3 an cy Sn, bX3 am cy Sm, bX0 af cy Sf, bX3 ai cy Si_1, bX0 aj cy Sj_1, bX2 al cy Sl, bX1 ag cy Sg, bX5 az cy M]) H := hP
  replace hD : va_D (fun q : Nat => s.heap.size ≤ q) (zFl [bX4 ah an am af ai aj al ag cy S_1, bX3 an cy Sn, bX3 am cy Sm, bX0 af cy Sf, bX3 ai cy Si_1, bX0 aj cy Sj_1, bX2 al cy Sl, bX1 ag cy Sg, bX5 az cy M]) := hD
  refine lv_aload_n hx hb dL_law_972 rfl (lv_at hl 2 rfl) ?_
  have hsp : (zFl [bX4 ah an am af ai aj al ag cy S_1, bX3 an cy Sn, bX3 am cy Sm, bX0 af cy Sf, bX3 ai cy Si_1, bX0 aj cy Sj_1, bX2 al cy Sl, bX1 ag cy Sg, bX5 az cy M]).Perm ((zFl [bX4 ah an am af ai aj al ag cy S_1, bX3 an cy Sn, bX3 am cy Sm, bX0 af cy Sf, bX3 ai cy Si_1, bX0 aj cy Sj_1, bX2 al cy Sl, bX1 ag cy Sg]) ++ (bX5 az cy M)) := zsp (n := 9) rfl [8] [0, 1, 2, 3, 4, 5, 6, 7] (by decide)
  have hPc : va_P D zCl (bX5 az cy M) H := zP_r (zP_perm hP hsp)
  have hDc : va_D (fun q : Nat => s.heap.size ≤ q) (bX5 az cy M) := zD_r (zD_perm hD hsp)
  refine zc_p (wd' := fun u => (zFl [bX4 ah an am af ai aj al ag cy S_1, bX3 an cy Sn, bX3 am cy Sm, bX0 af cy Sf, bX3 ai cy Si_1, bX0 aj cy Sj_1, bX2 al cy Sl, bX1 ag cy Sg, bX5 az cy (u)])) (va_runV (As := []) (rest := [.int r1]) ⟨hx, hb, hml, hown, htB⟩ (c_X5_image l D cy az H.size M (Q := fun r' M' => r' = r1 ∧ Inv S_1 Sn Sf Si_1 Sj_1 Sl M') h) (cwV 0 htB (zgV zm_784 zm_785 zm_786 zm_263 zm_787) rfl rfl rfl hd_X5_image ⟨Nat.le_of_ble_eq_true rfl, Nat.le_of_ble_eq_true rfl⟩) ⟨zM_blind, va_recv hK hPc (ci := 5) (q0 := 0) rfl rfl, zM_pre hPc hK hN hDc⟩ rfl rfl hl.1 rfl (lv_room (Nat.le_of_ble_eq_true rfl)) dL_law_973 ⟨Nat.le_of_ble_eq_true rfl, Nat.le_of_ble_eq_true rfl⟩) hS hA hP hD hsp (fun u => zsp (n := 9) rfl [8] [0, 1, 2, 3, 4, 5, 6, 7] (by decide)) (fun u => rfl) (fun r2 u H locs h hP hD hS => ?_)
  obtain ⟨M_2, eu⟩ : ∃ z, z = u := ⟨_, rfl⟩
  subst eu
  replace hP : va_P D zCl (zFl [bX4 ah an am af ai aj al ag cy S_1, bX3 an cy Sn, bX3 am cy Sm, bX0 af cy Sf, bX3 ai cy Si_1, bX0 aj cy Sj_1, bX2 al cy Sl, bX1 ag cy Sg, bX5 az cy M_2]) H := hP
  replace hD : va_D (fun q : Nat => s.heap.size ≤ q) (zFl [bX4 ah an am af ai aj al ag cy S_1, bX3 an cy Sn, bX3 am cy Sm, bX0 af cy Sf, bX3 ai cy Si_1, bX0 aj cy Sj_1, bX2 al cy Sl, bX1 ag cy Sg, bX5 az cy M_2]) := hD
  refine lv_icmp_eq (tgt := 1017) hx hb dL_law_976 (by decide) (fun _ => ?_) (fun cn => absurd h.1.symm cn)
  exact cont S_1 Sn Sm Sf Si_1 Sj_1 Sl Sg M_2 H locs ls hP hD hS h.2 hl
set_option maxHeartbeats 4000000 in
set_option maxRecDepth 100000 in
theorem lc_35 (C : zLC p l e s m below meth c D cy b L xs ah an am af ai aj al ag az i) (hi : i + 5 ≤ L) (hL : L ≤ 2560) (cont : zLs1 p l e s m below meth c D cy b L xs ah an am af ai aj al ag az i 1017) : zLs1 p l e s m below meth c D cy b L xs ah an am af ai aj al ag az i 981 := by
  obtain ⟨⟨hx, hb, hr, hml, hown0, hts, hX, hbl, hlocks, hgv⟩, hK, hN, hC⟩ := C
  intro S Sn Sm Sf Si Sj Sl Sg M H locs ls hP hD hS hI hl
  have hown : s.vm.findClass RL = some m.cls := hown0
  have htB : ∀ w ∈ zB, w.before #[Value.ref b] s = true := fun w h => hts w (List.mem_filter.mp h).1
  have hA : ∀ q : Nat, s.heap.size ≤ q → (fun q : Nat => s.heap.size ≤ q) q := fun _ h => h
  have hbA : ¬ (fun q : Nat => s.heap.size ≤ q) b := Nat.not_le.mpr hbl
  have hin1 : vp_in (nI i + (1 : Int32)) L := by rw [show nI i + (1 : Int32) = nI (i + 1) from nI_add i 1]; exact vp_in_nI (by omega) (by omega)
  have hin2 : vp_in (nI i + (2 : Int32)) L := by rw [show nI i + (2 : Int32) = nI (i + 2) from nI_add i 2]; exact vp_in_nI (by omega) (by omega)
  have hin3 : vp_in (nI i + (3 : Int32)) L := by rw [show nI i + (3 : Int32) = nI (i + 3) from nI_add i 3]; exact vp_in_nI (by omega) (by omega)
  have hin4 : vp_in (nI i + (4 : Int32)) L := by rw [show nI i + (4 : Int32) = nI (i + 4) from nI_add i 4]; exact vp_in_nI (by omega) (by omega)
  refine lv_aload_n hx hb dL_law_981 rfl (lv_at hl 1 rfl) ?_
  have hsp : (zFl [bX4 ah an am af ai aj al ag cy S, bX3 an cy Sn, bX3 am cy Sm, bX0 af cy Sf, bX3 ai cy Si, bX0 aj cy Sj, bX2 al cy Sl, bX1 ag cy Sg, bX5 az cy M]).Perm ((zFl [bX3 am cy Sm, bX2 al cy Sl, bX1 ag cy Sg, bX5 az cy M]) ++ ((bX4 ah an am af ai aj al ag cy S) ++ ((bX3 an cy Sn) ++ ((bX0 af cy Sf) ++ ((bX3 ai cy Si) ++ ((bX0 aj cy Sj))))))) := zsp (n := 9) rfl [0, 1, 3, 4, 5] [2, 6, 7, 8] (by decide)
  have hPc : va_P D zCl ((bX4 ah an am af ai aj al ag cy S) ++ ((bX3 an cy Sn) ++ ((bX0 af cy Sf) ++ ((bX3 ai cy Si) ++ ((bX0 aj cy Sj)))))) H := zP_r (zP_perm hP hsp)
  have hDc : va_D (fun q : Nat => s.heap.size ≤ q) ((bX4 ah an am af ai aj al ag cy S) ++ ((bX3 an cy Sn) ++ ((bX0 af cy Sf) ++ ((bX3 ai cy Si) ++ ((bX0 aj cy Sj)))))) := zD_r (zD_perm hD hsp)
  refine zc_p (wd' := fun u => (zFl [bX4 ah an am af ai aj al ag cy (u.1), bX3 an cy (u.2.1), bX3 am cy Sm, bX0 af cy (u.2.2), bX3 ai cy Si, bX0 aj cy Sj, bX2 al cy Sl, bX1 ag cy Sg, bX5 az cy M])) (va_runV (As := []) (rest := []) ⟨hx, hb, hml, hown, htB⟩ (c_X4_on l D cy ah an am af ai aj al ag H.size Si Sj S Sn Sf (ok_on hI)) (cwV 0 htB (zgV zm_788 zm_789 zm_790 zm_4 zm_791) rfl rfl rfl hd_X4_on ⟨Nat.le_of_ble_eq_true rfl, Nat.le_of_ble_eq_true rfl⟩) ⟨zM_blind, va_recv hK hPc (ci := 4) (q0 := 0) rfl rfl, zM_pre hPc hK hN hDc⟩ rfl rfl hl.1 rfl (lv_room (Nat.le_of_ble_eq_true rfl)) dL_law_982 ⟨Nat.le_of_ble_eq_true rfl, Nat.le_of_ble_eq_true rfl⟩) hS hA hP hD hsp (fun u => zsp (n := 9) rfl [0, 1, 3, 4, 5] [2, 6, 7, 8] (by decide)) (fun u => rfl) (fun r1 u H locs h hP hD hS => ?_)
  obtain ⟨S_1, Sn_1, Sf_1⟩ := u
  replace hP : va_P D zCl (zFl [bX4 ah an am af ai aj al ag cy S_1, bX3 an cy Sn_1, bX3 am cy Sm, bX0 af cy Sf_1, bX3 ai cy Si, bX0 aj cy Sj, bX2 al cy Sl, bX1 ag cy Sg, bX5 az cy M]) H := hP
  replace hD : va_D (fun q : Nat => s.heap.size ≤ q) (zFl [bX4 ah an am af ai aj al ag cy S_1, bX3 an cy Sn_1, bX3 am cy Sm, bX0 af cy Sf_1, bX3 ai cy Si, bX0 aj cy Sj, bX2 al cy Sl, bX1 ag cy Sg, bX5 az cy M]) := hD
  refine lv_aload_n hx hb dL_law_985 rfl (lv_at hl 2 rfl) ?_
  have hsp : (zFl [bX4 ah an am af ai aj al ag cy S_1, bX3 an cy Sn_1, bX3 am cy Sm, bX0 af cy Sf_1, bX3 ai cy Si, bX0 aj cy Sj, bX2 al cy Sl, bX1 ag cy Sg, bX5 az cy M]).Perm ((zFl [bX4 ah an am af ai aj al ag cy S_1, bX3 an cy Sn_1, bX3 am cy Sm, bX0 af cy Sf_1, bX3 ai cy Si, bX0 aj cy Sj, bX2 al cy Sl, bX1 ag cy Sg]) ++ (bX5 az cy M)) := zsp (n := 9) rfl [8] [0, 1, 2, 3, 4, 5, 6, 7] (by decide)
  have hPc : va_P D zCl (bX5 az cy M) H := zP_r (zP_perm hP hsp)
  have hDc : va_D (fun q : Nat => s.heap.size ≤ q) (bX5 az cy M) := zD_r (zD_perm hD hsp)
  refine zc_p (wd' := fun u => (zFl [bX4 ah an am af ai aj al ag cy S_1, bX3 an cy Sn_1, bX3 am cy Sm, bX0 af cy Sf_1, bX3 ai cy Si, bX0 aj cy Sj, bX2 al cy Sl, bX1 ag cy Sg, bX5 az cy (u)])) (va_runV (As := []) (rest := [.int r1]) ⟨hx, hb, hml, hown, htB⟩ (c_X5_on l D cy az H.size M (Q := fun r' M' => r' = r1 ∧ Inv S_1 Sn_1 Sf_1 Si Sj Sl M') h) (cwV 0 htB (zgV zm_792 zm_793 zm_794 zm_263 zm_795) rfl rfl rfl hd_X5_on ⟨Nat.le_of_ble_eq_true rfl, Nat.le_of_ble_eq_true rfl⟩) ⟨zM_blind, va_recv hK hPc (ci := 5) (q0 := 0) rfl rfl, zM_pre hPc hK hN hDc⟩ rfl rfl hl.1 rfl (lv_room (Nat.le_of_ble_eq_true rfl)) dL_law_986 ⟨Nat.le_of_ble_eq_true rfl, Nat.le_of_ble_eq_true rfl⟩) hS hA hP hD hsp (fun u => zsp (n := 9) rfl [8] [0, 1, 2, 3, 4, 5, 6, 7] (by decide)) (fun u => rfl) (fun r2 u H locs h hP hD hS => ?_)
  obtain ⟨M_2, eu⟩ : ∃ z, z = u := ⟨_, rfl⟩
  subst eu
  replace hP : va_P D zCl (zFl [bX4 ah an am af ai aj al ag cy S_1, bX3 an cy Sn_1, bX3 am cy Sm, bX0 af cy Sf_1, bX3 ai cy Si, bX0 aj cy Sj, bX2 al cy Sl, bX1 ag cy Sg, bX5 az cy M_2]) H := hP
  replace hD : va_D (fun q : Nat => s.heap.size ≤ q) (zFl [bX4 ah an am af ai aj al ag cy S_1, bX3 an cy Sn_1, bX3 am cy Sm, bX0 af cy Sf_1, bX3 ai cy Si, bX0 aj cy Sj, bX2 al cy Sl, bX1 ag cy Sg, bX5 az cy M_2]) := hD
  refine lv_icmp_eq (tgt := 1017) hx hb dL_law_989 (by decide) (fun _ => ?_) (fun cn => absurd h.1.symm cn)
  exact cont S_1 Sn_1 Sm Sf_1 Si Sj Sl Sg M_2 H locs ls hP hD hS h.2 hl
set_option maxHeartbeats 4000000 in
set_option maxRecDepth 100000 in
theorem lc_36 (C : zLC p l e s m below meth c D cy b L xs ah an am af ai aj al ag az i) (hi : i + 5 ≤ L) (hL : L ≤ 2560) (cont : zLs1 p l e s m below meth c D cy b L xs ah an am af ai aj al ag az i 1017) : zLs1 p l e s m below meth c D cy b L xs ah an am af ai aj al ag az i 994 := by
  obtain ⟨⟨hx, hb, hr, hml, hown0, hts, hX, hbl, hlocks, hgv⟩, hK, hN, hC⟩ := C
  intro S Sn Sm Sf Si Sj Sl Sg M H locs ls hP hD hS hI hl
  have hown : s.vm.findClass RL = some m.cls := hown0
  have htB : ∀ w ∈ zB, w.before #[Value.ref b] s = true := fun w h => hts w (List.mem_filter.mp h).1
  have hA : ∀ q : Nat, s.heap.size ≤ q → (fun q : Nat => s.heap.size ≤ q) q := fun _ h => h
  have hbA : ¬ (fun q : Nat => s.heap.size ≤ q) b := Nat.not_le.mpr hbl
  have hin1 : vp_in (nI i + (1 : Int32)) L := by rw [show nI i + (1 : Int32) = nI (i + 1) from nI_add i 1]; exact vp_in_nI (by omega) (by omega)
  have hin2 : vp_in (nI i + (2 : Int32)) L := by rw [show nI i + (2 : Int32) = nI (i + 2) from nI_add i 2]; exact vp_in_nI (by omega) (by omega)
  have hin3 : vp_in (nI i + (3 : Int32)) L := by rw [show nI i + (3 : Int32) = nI (i + 3) from nI_add i 3]; exact vp_in_nI (by omega) (by omega)
  have hin4 : vp_in (nI i + (4 : Int32)) L := by rw [show nI i + (4 : Int32) = nI (i + 4) from nI_add i 4]; exact vp_in_nI (by omega) (by omega)
  refine lv_aload_n hx hb dL_law_994 rfl (lv_at hl 1 rfl) ?_
  refine lv_aload_n hx hb dL_law_995 rfl (lv_at hl 0 rfl) ?_
  refine lv_iload_n hx hb dL_law_996 rfl (lv_at hl 3 rfl) ?_
  refine lv_iconst (v := (1 : Int32)) hx hb dL_law_997 (by decide) ?_
  refine lv_iadd hx hb dL_law_998 ?_
  refine va_sld hx hb hX hbl hbA hS (hin1) dL_law_999 ?_
  have hsp : (zFl [bX4 ah an am af ai aj al ag cy S, bX3 an cy Sn, bX3 am cy Sm, bX0 af cy Sf, bX3 ai cy Si, bX0 aj cy Sj, bX2 al cy Sl, bX1 ag cy Sg, bX5 az cy M]).Perm ((zFl [bX3 am cy Sm, bX3 ai cy Si, bX0 aj cy Sj, bX1 ag cy Sg, bX5 az cy M]) ++ ((bX4 ah an am af ai aj al ag cy S) ++ ((bX3 an cy Sn) ++ ((bX0 af cy Sf) ++ ((bX2 al cy Sl)))))) := zsp (n := 9) rfl [0, 1, 3, 6] [2, 4, 5, 7, 8] (by decide)
  have hPc : va_P D zCl ((bX4 ah an am af ai aj al ag cy S) ++ ((bX3 an cy Sn) ++ ((bX0 af cy Sf) ++ ((bX2 al cy Sl))))) H := zP_r (zP_perm hP hsp)
  refine zc_rm (va_runV (As := [.int (xs (nI i + (1 : Int32)).toNatClampNeg)]) (rest := []) ⟨hx, hb, hml, hown, htB⟩ (c_X4_count l D cy ah an am af ai aj al ag S Sn Sf Sl (xs (nI i + (1 : Int32)).toNatClampNeg) (ok_count hI)) (cwV 1 htB (zgV zm_796 zm_797 zm_798 zm_4 zm_799) rfl rfl rfl hd_X4_count ⟨Nat.le_of_ble_eq_true rfl, Nat.le_of_ble_eq_true rfl⟩) ⟨zR_blind, va_recv hK hPc (ci := 4) (q0 := 0) rfl rfl, zR_pre hPc hK hN⟩ rfl rfl hl.1 rfl (lv_room (Nat.le_of_ble_eq_true rfl)) dL_law_1000 ⟨Nat.le_of_ble_eq_true rfl, Nat.le_of_ble_eq_true rfl⟩) (fun r1 h => ?_)
  refine lv_aload_n hx hb dL_law_1003 rfl (lv_at hl 2 rfl) ?_
  refine lv_aload_n hx hb dL_law_1004 rfl (lv_at hl 0 rfl) ?_
  refine lv_iload_n hx hb dL_law_1005 rfl (lv_at hl 3 rfl) ?_
  refine lv_iconst (v := (1 : Int32)) hx hb dL_law_1006 (by decide) ?_
  refine lv_iadd hx hb dL_law_1007 ?_
  refine va_sld hx hb hX hbl hbA hS (hin1) dL_law_1008 ?_
  have hsp : (zFl [bX4 ah an am af ai aj al ag cy S, bX3 an cy Sn, bX3 am cy Sm, bX0 af cy Sf, bX3 ai cy Si, bX0 aj cy Sj, bX2 al cy Sl, bX1 ag cy Sg, bX5 az cy M]).Perm ((zFl [bX4 ah an am af ai aj al ag cy S, bX3 an cy Sn, bX3 am cy Sm, bX0 af cy Sf, bX3 ai cy Si, bX0 aj cy Sj, bX2 al cy Sl, bX1 ag cy Sg]) ++ (bX5 az cy M)) := zsp (n := 9) rfl [8] [0, 1, 2, 3, 4, 5, 6, 7] (by decide)
  have hPc : va_P D zCl (bX5 az cy M) H := zP_r (zP_perm hP hsp)
  refine zc_rm (va_runV (As := [.int (xs (nI i + (1 : Int32)).toNatClampNeg)]) (rest := [.int r1]) ⟨hx, hb, hml, hown, htB⟩ (c_X5_count l D cy az M (xs (nI i + (1 : Int32)).toNatClampNeg) (Q := fun r' => r' = r1 ∧ Inv S Sn Sf Si Sj Sl M) h) (cwV 1 htB (zgV zm_800 zm_801 zm_802 zm_263 zm_803) rfl rfl rfl hd_X5_count ⟨Nat.le_of_ble_eq_true rfl, Nat.le_of_ble_eq_true rfl⟩) ⟨zR_blind, va_recv hK hPc (ci := 5) (q0 := 0) rfl rfl, zR_pre hPc hK hN⟩ rfl rfl hl.1 rfl (lv_room (Nat.le_of_ble_eq_true rfl)) dL_law_1009 ⟨Nat.le_of_ble_eq_true rfl, Nat.le_of_ble_eq_true rfl⟩) (fun r2 h => ?_)
  refine lv_icmp_eq (tgt := 1017) hx hb dL_law_1012 (by decide) (fun _ => ?_) (fun cn => absurd h.1.symm cn)
  exact cont S Sn Sm Sf Si Sj Sl Sg M H locs ls hP hD hS h.2 hl
end LAWC

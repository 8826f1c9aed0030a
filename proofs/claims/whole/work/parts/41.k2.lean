section LAWC
variable {p : Program} {l : Launch} {e : Env} {s : State} {m : MethodId} {below : List Frame} {meth : Method} {c : Code} {D : va_G} {cy : ClassId} {b L : Nat} {xs : Nat → Int32} {ah an am af ai aj al ag az : Nat → Nat} {i : Nat}
set_option maxHeartbeats 4000000 in
set_option maxRecDepth 100000 in
theorem lc_0 (C : zLC p l e s m below meth c D cy b L xs ah an am af ai aj al ag az i) (hi : i + 5 ≤ L) (hL : L ≤ 2560) (cont : zLs1 p l e s m below meth c D cy b L xs ah an am af ai aj al ag az i 1017) : zLs1 p l e s m below meth c D cy b L xs ah an am af ai aj al ag az i 196 := by
  obtain ⟨⟨hx, hb, hr, hml, hown0, hts, hX, hbl, hlocks, hgv⟩, hK, hN, hC⟩ := C
  intro S Sn Sm Sf Si Sj Sl Sg M H locs ls hP hD hS hI hl
  have hown : s.vm.findClass RL = some m.cls := hown0
  have htB : ∀ w ∈ zB, w.before #[Value.ref b] s = true := fun w h => hts w (List.mem_filter.mp h).1
  have hA : ∀ q : Nat, s.heap.size ≤ q → (fun q : Nat => s.heap.size ≤ q) q := fun _ h => h
  have hbA : ¬ (fun q : Nat => s.heap.size ≤ q) b := Nat.not_le.mpr hbl
  have hin1 : vp_in (nI i + (1 : Int32)) L := by rw [show nI i + (1 : Int32) = nI (i + 1) from nI_add i 1]; exact vp_in_nI (by omega) (by omega)
  have hin2 : vp_in (nI i + (2 : Int32)) L := by rw [show nI i + (2 : Int32) = nI (i + 2) from nI_add i 2]; exact vp_in_nI (by omega) (by omega)
  have hin3 : vp_in (nI i + (3 : Int32)) L := by rw [show nI i + (3 : Int32) = nI (i + 3) from nI_add i 3]; exact vp_in_nI (by omega) (by omega)
  have hin4 : vp_in (nI i + (4 : Int32)) L := by rw [show nI i + (4 : Int32) = nI (i + 4) from nI_add i 4]; exact vp_in_nI (by omega) (by omega)
  refine lv_aload_n hx hb dL_law_196 rfl (lv_at hl 1 rfl) ?_
  refine lv_aload_n hx hb dL_law_197 rfl (lv_at hl 0 rfl) ?_
  refine lv_iload_n hx hb dL_law_198 rfl (lv_at hl 3 rfl) ?_
  refine lv_iconst (v := (1 : Int32)) hx hb dL_law_199 (by decide) ?_
  refine lv_iadd hx hb dL_law_200 ?_
  refine va_sld hx hb hX hbl hbA hS (hin1) dL_law_201 ?_
  have hsp : (zFl [bX4 ah an am af ai aj al ag cy S, bX3 an cy Sn, bX3 am cy Sm, bX0 af cy Sf, bX3 ai cy Si, bX0 aj cy Sj, bX2 al cy Sl, bX1 ag cy Sg, bX5 az cy M]).Perm ((zFl [bX3 an cy Sn, bX3 am cy Sm, bX0 af cy Sf, bX3 ai cy Si, bX0 aj cy Sj, bX1 ag cy Sg, bX5 az cy M]) ++ ((bX4 ah an am af ai aj al ag cy S) ++ ((bX2 al cy Sl)))) := zsp (n := 9) rfl [0, 6] [1, 2, 3, 4, 5, 7, 8] (by decide)
  have hPc : va_P D zCl ((bX4 ah an am af ai aj al ag cy S) ++ ((bX2 al cy Sl))) H := zP_r (zP_perm hP hsp)
  have hDc : va_D (fun q : Nat => s.heap.size ≤ q) ((bX4 ah an am af ai aj al ag cy S) ++ ((bX2 al cy Sl))) := zD_r (zD_perm hD hsp)
  refine zc_p (wd' := fun u => (zFl [bX4 ah an am af ai aj al ag cy (u.1), bX3 an cy Sn, bX3 am cy Sm, bX0 af cy Sf, bX3 ai cy Si, bX0 aj cy Sj, bX2 al cy (u.2), bX1 ag cy Sg, bX5 az cy M])) (va_runV (As := [.int (xs (nI i + (1 : Int32)).toNatClampNeg)]) (rest := []) ⟨hx, hb, hml, hown, htB⟩ (c_X4_letter l D cy ah an am af ai aj al ag H.size (xs (nI i + (1 : Int32)).toNatClampNeg) S Sl (ok_letter hI)) (cwV 1 htB (zgV zm_508 zm_509 zm_510 zm_4 zm_511) rfl rfl rfl hd_X4_letter ⟨Nat.le_of_ble_eq_true rfl, Nat.le_of_ble_eq_true rfl⟩) ⟨zM_blind, va_recv hK hPc (ci := 4) (q0 := 0) rfl rfl, zM_pre hPc hK hN hDc⟩ rfl rfl hl.1 rfl (lv_room (Nat.le_of_ble_eq_true rfl)) dL_law_202 ⟨Nat.le_of_ble_eq_true rfl, Nat.le_of_ble_eq_true rfl⟩) hS hA hP hD hsp (fun u => zsp (n := 9) rfl [0, 6] [1, 2, 3, 4, 5, 7, 8] (by decide)) (fun u => rfl) (fun r1 u H locs h hP hD hS => ?_)
  obtain ⟨S_1, Sl_1⟩ := u
  replace hP : va_P D zCl (zFl [bX4 ah an am af ai aj al ag cy S_1, bX3 an cy Sn, bX3 am cy Sm, bX0 af cy Sf, bX3 ai cy Si, bX0 aj cy Sj, bX2 al cy Sl_1, bX1 ag cy Sg, bX5 az cy M]) H := hP
  replace hD : va_D (fun q : Nat => s.heap.size ≤ q) (zFl [bX4 ah an am af ai aj al ag cy S_1, bX3 an cy Sn, bX3 am cy Sm, bX0 af cy Sf, bX3 ai cy Si, bX0 aj cy Sj, bX2 al cy Sl_1, bX1 ag cy Sg, bX5 az cy M]) := hD
  refine lv_aload_n hx hb dL_law_205 rfl (lv_at hl 2 rfl) ?_
  refine lv_aload_n hx hb dL_law_206 rfl (lv_at hl 0 rfl) ?_
  refine lv_iload_n hx hb dL_law_207 rfl (lv_at hl 3 rfl) ?_
  refine lv_iconst (v := (1 : Int32)) hx hb dL_law_208 (by decide) ?_
  refine lv_iadd hx hb dL_law_209 ?_
  refine va_sld hx hb hX hbl hbA hS (hin1) dL_law_210 ?_
  have hsp : (zFl [bX4 ah an am af ai aj al ag cy S_1, bX3 an cy Sn, bX3 am cy Sm, bX0 af cy Sf, bX3 ai cy Si, bX0 aj cy Sj, bX2 al cy Sl_1, bX1 ag cy Sg, bX5 az cy M]).Perm ((zFl [bX4 ah an am af ai aj al ag cy S_1, bX3 an cy Sn, bX3 am cy Sm, bX0 af cy Sf, bX3 ai cy Si, bX0 aj cy Sj, bX2 al cy Sl_1, bX1 ag cy Sg]) ++ (bX5 az cy M)) := zsp (n := 9) rfl [8] [0, 1, 2, 3, 4, 5, 6, 7] (by decide)
  have hPc : va_P D zCl (bX5 az cy M) H := zP_r (zP_perm hP hsp)
  have hDc : va_D (fun q : Nat => s.heap.size ≤ q) (bX5 az cy M) := zD_r (zD_perm hD hsp)
  refine zc_p (wd' := fun u => (zFl [bX4 ah an am af ai aj al ag cy S_1, bX3 an cy Sn, bX3 am cy Sm, bX0 af cy Sf, bX3 ai cy Si, bX0 aj cy Sj, bX2 al cy Sl_1, bX1 ag cy Sg, bX5 az cy (u)])) (va_runV (As := [.int (xs (nI i + (1 : Int32)).toNatClampNeg)]) (rest := [.int r1]) ⟨hx, hb, hml, hown, htB⟩ (c_X5_letter l D cy az H.size (xs (nI i + (1 : Int32)).toNatClampNeg) M (Q := fun r' M' => r' = r1 ∧ Inv S_1 Sn Sf Si Sj Sl_1 M') h) (cwV 1 htB (zgV zm_512 zm_513 zm_514 zm_263 zm_515) rfl rfl rfl hd_X5_letter ⟨Nat.le_of_ble_eq_true rfl, Nat.le_of_ble_eq_true rfl⟩) ⟨zM_blind, va_recv hK hPc (ci := 5) (q0 := 0) rfl rfl, zM_pre hPc hK hN hDc⟩ rfl rfl hl.1 rfl (lv_room (Nat.le_of_ble_eq_true rfl)) dL_law_211 ⟨Nat.le_of_ble_eq_true rfl, Nat.le_of_ble_eq_true rfl⟩) hS hA hP hD hsp (fun u => zsp (n := 9) rfl [8] [0, 1, 2, 3, 4, 5, 6, 7] (by decide)) (fun u => rfl) (fun r2 u H locs h hP hD hS => ?_)
  obtain ⟨M_2, eu⟩ : ∃ z, z = u := ⟨_, rfl⟩
  subst eu
  replace hP : va_P D zCl (zFl [bX4 ah an am af ai aj al ag cy S_1, bX3 an cy Sn, bX3 am cy Sm, bX0 af cy Sf, bX3 ai cy Si, bX0 aj cy Sj, bX2 al cy Sl_1, bX1 ag cy Sg, bX5 az cy M_2]) H := hP
  replace hD : va_D (fun q : Nat => s.heap.size ≤ q) (zFl [bX4 ah an am af ai aj al ag cy S_1, bX3 an cy Sn, bX3 am cy Sm, bX0 af cy Sf, bX3 ai cy Si, bX0 aj cy Sj, bX2 al cy Sl_1, bX1 ag cy Sg, bX5 az cy M_2]) := hD
  refine lv_icmp_eq (tgt := 1017) hx hb dL_law_214 (by decide) (fun _ => ?_) (fun cn => absurd h.1.symm cn)
  exact cont S_1 Sn Sm Sf Si Sj Sl_1 Sg M_2 H locs ls hP hD hS h.2 hl
end LAWC

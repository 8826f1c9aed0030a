section LAWL
variable {p : Program} {l : Launch} {e : Env} {s : State} {m : MethodId} {below : List Frame} {meth : Method} {c : Code} {D : va_G} {cy : ClassId} {b L : Nat} {xs : Nat → Int32} {ah an am af ai aj al ag az : Nat → Nat} {i : Nat}
set_option maxHeartbeats 4000000 in
set_option maxRecDepth 100000 in
theorem law_body (C : zLC p l e s m below meth c D cy b L xs ah an am af ai aj al ag az i) (hi : i + 5 ≤ L) (hL : L ≤ 2560) (cont : zLs1 p l e s m below meth c D cy b L xs ah an am af ai aj al ag az i 1017) : zLs1 p l e s m below meth c D cy b L xs ah an am af ai aj al ag az i 26 := by
  obtain ⟨⟨hx, hb, hr, hml, hown0, hts, hX, hbl, hlocks, hgv⟩, hK, hN, hC⟩ := id C
  intro S Sn Sm Sf Si Sj Sl Sg M H locs ls hP hD hS hI hl
  have hbA : ¬ (fun q : Nat => s.heap.size ≤ q) b := Nat.not_le.mpr hbl
  have hin : vp_in (nI i) L := vp_in_nI (by omega) (by omega)
  refine lv_aload_n hx hb dL_law_26 rfl (lv_at hl 0 rfl) ?_
  refine lv_iload_n hx hb dL_law_27 rfl (lv_at hl 3 rfl) ?_
  refine va_sld hx hb hX hbl hbA hS hin dL_law_28 ?_
  refine lv_bipush (v := (63 : Int32)) hx hb dL_law_29 (by decide) ?_
  refine lv_iand hx hb dL_law_31 ?_
  refine lv_topi (fun y _ => ?_)
  by_cases c0 : y = (0 : Int32)
  · refine lv_tableIn (off := 164) (tgt := 196) hx hb dL_law_32 (by rw [c0]; decide) (by rw [c0]; decide) (by rw [c0]; rfl) (by decide) ?_
    exact lc_0 C hi hL cont S Sn Sm Sf Si Sj Sl Sg M H locs ls hP hD hS hI hl
  by_cases c1 : y = (1 : Int32)
  · refine lv_tableIn (off := 187) (tgt := 219) hx hb dL_law_32 (by rw [c1]; decide) (by rw [c1]; decide) (by rw [c1]; rfl) (by decide) ?_
    exact lc_1 C hi hL cont S Sn Sm Sf Si Sj Sl Sg M H locs ls hP hD hS hI hl
  by_cases c2 : y = (2 : Int32)
  · refine lv_tableIn (off := 200) (tgt := 232) hx hb dL_law_32 (by rw [c2]; decide) (by rw [c2]; decide) (by rw [c2]; rfl) (by decide) ?_
    exact lc_2 C hi hL cont S Sn Sm Sf Si Sj Sl Sg M H locs ls hP hD hS hI hl
  by_cases c3 : y = (3 : Int32)
  · refine lv_tableIn (off := 233) (tgt := 265) hx hb dL_law_32 (by rw [c3]; decide) (by rw [c3]; decide) (by rw [c3]; rfl) (by decide) ?_
    exact lc_3 C hi hL cont S Sn Sm Sf Si Sj Sl Sg M H locs ls hP hD hS hI hl
  by_cases c4 : y = (4 : Int32)
  · refine lv_tableIn (off := 266) (tgt := 298) hx hb dL_law_32 (by rw [c4]; decide) (by rw [c4]; decide) (by rw [c4]; rfl) (by decide) ?_
    exact lc_4 C hi hL cont S Sn Sm Sf Si Sj Sl Sg M H locs ls hP hD hS hI hl
  by_cases c5 : y = (5 : Int32)
  · refine lv_tableIn (off := 289) (tgt := 321) hx hb dL_law_32 (by rw [c5]; decide) (by rw [c5]; decide) (by rw [c5]; rfl) (by decide) ?_
    exact lc_5 C hi hL cont S Sn Sm Sf Si Sj Sl Sg M H locs ls hP hD hS hI hl
  by_cases c6 : y = (6 : Int32)
  · refine lv_tableIn (off := 332) (tgt := 364) hx hb dL_law_32 (by rw [c6]; decide) (by rw [c6]; decide) (by rw [c6]; rfl) (by decide) ?_
    exact lc_6 C hi hL cont S Sn Sm Sf Si Sj Sl Sg M H locs ls hP hD hS hI hl
  by_cases c7 : y = (7 : Int32)
  · refine lv_tableIn (off := 355) (tgt := 387) hx hb dL_law_32 (by rw [c7]; decide) (by rw [c7]; decide) (by rw [c7]; rfl) (by decide) ?_
    exact lc_7 C hi hL cont S Sn Sm Sf Si Sj Sl Sg M H locs ls hP hD hS hI hl
  by_cases c8 : y = (8 : Int32)
  · refine lv_tableIn (off := 378) (tgt := 410) hx hb dL_law_32 (by rw [c8]; decide) (by rw [c8]; decide) (by rw [c8]; rfl) (by decide) ?_
    exact lc_8 C hi hL cont S Sn Sm Sf Si Sj Sl Sg M H locs ls hP hD hS hI hl
  by_cases c9 : y = (9 : Int32)
  · refine lv_tableIn (off := 401) (tgt := 433) hx hb dL_law_32 (by rw [c9]; decide) (by rw [c9]; decide) (by rw [c9]; rfl) (by decide) ?_
    exact lc_9 C hi hL cont S Sn Sm Sf Si Sj Sl Sg M H locs ls hP hD hS hI hl
  by_cases c10 : y = (10 : Int32)
  · refine lv_tableIn (off := 424) (tgt := 456) hx hb dL_law_32 (by rw [c10]; decide) (by rw [c10]; decide) (by rw [c10]; rfl) (by decide) ?_
    exact lc_10 C hi hL cont S Sn Sm Sf Si Sj Sl Sg M H locs ls hP hD hS hI hl
  by_cases c11 : y = (11 : Int32)
  · refine lv_tableIn (off := 447) (tgt := 479) hx hb dL_law_32 (by rw [c11]; decide) (by rw [c11]; decide) (by rw [c11]; rfl) (by decide) ?_
    exact lc_11 C hi hL cont S Sn Sm Sf Si Sj Sl Sg M H locs ls hP hD hS hI hl
  by_cases c12 : y = (12 : Int32)
  · refine lv_tableIn (off := 470) (tgt := 502) hx hb dL_law_32 (by rw [c12]; decide) (by rw [c12]; decide) (by rw [c12]; rfl) (by decide) ?_
    exact lc_12 C hi hL cont S Sn Sm Sf Si Sj Sl Sg M H locs ls hP hD hS hI hl
  by_cases c13 : y = (13 : Int32)
  · refine lv_tableIn (off := 493) (tgt := 525) hx hb dL_law_32 (by rw [c13]; decide) (by rw [c13]; decide) (by rw [c13]; rfl) (by decide) ?_
    exact lc_13 C hi hL cont S Sn Sm Sf Si Sj Sl Sg M H locs ls hP hD hS hI hl
  by_cases c14 : y = (14 : Int32)
  · refine lv_tableIn (off := 516) (tgt := 548) hx hb dL_law_32 (by rw [c14]; decide) (by rw [c14]; decide) (by rw [c14]; rfl) (by decide) ?_
    exact lc_14 C hi hL cont S Sn Sm Sf Si Sj Sl Sg M H locs ls hP hD hS hI hl
  by_cases c15 : y = (15 : Int32)
  · refine lv_tableIn (off := 539) (tgt := 571) hx hb dL_law_32 (by rw [c15]; decide) (by rw [c15]; decide) (by rw [c15]; rfl) (by decide) ?_
    exact lc_15 C hi hL cont S Sn Sm Sf Si Sj Sl Sg M H locs ls hP hD hS hI hl
  by_cases c16 : y = (16 : Int32)
  · refine lv_tableIn (off := 552) (tgt := 584) hx hb dL_law_32 (by rw [c16]; decide) (by rw [c16]; decide) (by rw [c16]; rfl) (by decide) ?_
    exact lc_16 C hi hL cont S Sn Sm Sf Si Sj Sl Sg M H locs ls hP hD hS hI hl
  by_cases c17 : y = (17 : Int32)
  · refine lv_tableIn (off := 565) (tgt := 597) hx hb dL_law_32 (by rw [c17]; decide) (by rw [c17]; decide) (by rw [c17]; rfl) (by decide) ?_
    exact lc_17 C hi hL cont S Sn Sm Sf Si Sj Sl Sg M H locs ls hP hD hS hI hl
  by_cases c18 : y = (18 : Int32)
  · refine lv_tableIn (off := 578) (tgt := 610) hx hb dL_law_32 (by rw [c18]; decide) (by rw [c18]; decide) (by rw [c18]; rfl) (by decide) ?_
    exact lc_18 C hi hL cont S Sn Sm Sf Si Sj Sl Sg M H locs ls hP hD hS hI hl
  by_cases c19 : y = (19 : Int32)
  · refine lv_tableIn (off := 591) (tgt := 623) hx hb dL_law_32 (by rw [c19]; decide) (by rw [c19]; decide) (by rw [c19]; rfl) (by decide) ?_
    exact lc_19 C hi hL cont S Sn Sm Sf Si Sj Sl Sg M H locs ls hP hD hS hI hl
  by_cases c20 : y = (20 : Int32)
  · refine lv_tableIn (off := 604) (tgt := 636) hx hb dL_law_32 (by rw [c20]; decide) (by rw [c20]; decide) (by rw [c20]; rfl) (by decide) ?_
    exact lc_20 C hi hL cont S Sn Sm Sf Si Sj Sl Sg M H locs ls hP hD hS hI hl
  by_cases c21 : y = (21 : Int32)
  · refine lv_tableIn (off := 637) (tgt := 669) hx hb dL_law_32 (by rw [c21]; decide) (by rw [c21]; decide) (by rw [c21]; rfl) (by decide) ?_
    exact lc_21 C hi hL cont S Sn Sm Sf Si Sj Sl Sg M H locs ls hP hD hS hI hl
  by_cases c22 : y = (22 : Int32)
  · refine lv_tableIn (off := 650) (tgt := 682) hx hb dL_law_32 (by rw [c22]; decide) (by rw [c22]; decide) (by rw [c22]; rfl) (by decide) ?_
    exact lc_22 C hi hL cont S Sn Sm Sf Si Sj Sl Sg M H locs ls hP hD hS hI hl
  by_cases c23 : y = (23 : Int32)
  · refine lv_tableIn (off := 663) (tgt := 695) hx hb dL_law_32 (by rw [c23]; decide) (by rw [c23]; decide) (by rw [c23]; rfl) (by decide) ?_
    exact lc_23 C hi hL cont S Sn Sm Sf Si Sj Sl Sg M H locs ls hP hD hS hI hl
  by_cases c24 : y = (24 : Int32)
  · refine lv_tableIn (off := 676) (tgt := 708) hx hb dL_law_32 (by rw [c24]; decide) (by rw [c24]; decide) (by rw [c24]; rfl) (by decide) ?_
    exact lc_24 C hi hL cont S Sn Sm Sf Si Sj Sl Sg M H locs ls hP hD hS hI hl
  by_cases c25 : y = (25 : Int32)
  · refine lv_tableIn (off := 689) (tgt := 721) hx hb dL_law_32 (by rw [c25]; decide) (by rw [c25]; decide) (by rw [c25]; rfl) (by decide) ?_
    exact lc_25 C hi hL cont S Sn Sm Sf Si Sj Sl Sg M H locs ls hP hD hS hI hl
  by_cases c26 : y = (26 : Int32)
  · refine lv_tableIn (off := 702) (tgt := 734) hx hb dL_law_32 (by rw [c26]; decide) (by rw [c26]; decide) (by rw [c26]; rfl) (by decide) ?_
    exact lc_26 C hi hL cont S Sn Sm Sf Si Sj Sl Sg M H locs ls hP hD hS hI hl
  by_cases c27 : y = (27 : Int32)
  · refine lv_tableIn (off := 715) (tgt := 747) hx hb dL_law_32 (by rw [c27]; decide) (by rw [c27]; decide) (by rw [c27]; rfl) (by decide) ?_
    exact lc_27 C hi hL cont S Sn Sm Sf Si Sj Sl Sg M H locs ls hP hD hS hI hl
  by_cases c28 : y = (28 : Int32)
  · refine lv_tableIn (off := 738) (tgt := 770) hx hb dL_law_32 (by rw [c28]; decide) (by rw [c28]; decide) (by rw [c28]; rfl) (by decide) ?_
    exact lc_28 C hi hL cont S Sn Sm Sf Si Sj Sl Sg M H locs ls hP hD hS hI hl
  by_cases c29 : y = (29 : Int32)
  · refine lv_tableIn (off := 791) (tgt := 823) hx hb dL_law_32 (by rw [c29]; decide) (by rw [c29]; decide) (by rw [c29]; rfl) (by decide) ?_
    exact lc_29 C hi hL cont S Sn Sm Sf Si Sj Sl Sg M H locs ls hP hD hS hI hl
  by_cases c30 : y = (30 : Int32)
  · refine lv_tableIn (off := 834) (tgt := 866) hx hb dL_law_32 (by rw [c30]; decide) (by rw [c30]; decide) (by rw [c30]; rfl) (by decide) ?_
    exact lc_30 C hi hL cont S Sn Sm Sf Si Sj Sl Sg M H locs ls hP hD hS hI hl
  by_cases c31 : y = (31 : Int32)
  · refine lv_tableIn (off := 867) (tgt := 899) hx hb dL_law_32 (by rw [c31]; decide) (by rw [c31]; decide) (by rw [c31]; rfl) (by decide) ?_
    exact lc_31 C hi hL cont S Sn Sm Sf Si Sj Sl Sg M H locs ls hP hD hS hI hl
  by_cases c32 : y = (32 : Int32)
  · refine lv_tableIn (off := 900) (tgt := 932) hx hb dL_law_32 (by rw [c32]; decide) (by rw [c32]; decide) (by rw [c32]; rfl) (by decide) ?_
    exact lc_32 C hi hL cont S Sn Sm Sf Si Sj Sl Sg M H locs ls hP hD hS hI hl
  by_cases c33 : y = (33 : Int32)
  · refine lv_tableIn (off := 923) (tgt := 955) hx hb dL_law_32 (by rw [c33]; decide) (by rw [c33]; decide) (by rw [c33]; rfl) (by decide) ?_
    exact lc_33 C hi hL cont S Sn Sm Sf Si Sj Sl Sg M H locs ls hP hD hS hI hl
  by_cases c34 : y = (34 : Int32)
  · refine lv_tableIn (off := 936) (tgt := 968) hx hb dL_law_32 (by rw [c34]; decide) (by rw [c34]; decide) (by rw [c34]; rfl) (by decide) ?_
    exact lc_34 C hi hL cont S Sn Sm Sf Si Sj Sl Sg M H locs ls hP hD hS hI hl
  by_cases c35 : y = (35 : Int32)
  · refine lv_tableIn (off := 949) (tgt := 981) hx hb dL_law_32 (by rw [c35]; decide) (by rw [c35]; decide) (by rw [c35]; rfl) (by decide) ?_
    exact lc_35 C hi hL cont S Sn Sm Sf Si Sj Sl Sg M H locs ls hP hD hS hI hl
  by_cases c36 : y = (36 : Int32)
  · refine lv_tableIn (off := 962) (tgt := 994) hx hb dL_law_32 (by rw [c36]; decide) (by rw [c36]; decide) (by rw [c36]; rfl) (by decide) ?_
    exact lc_36 C hi hL cont S Sn Sm Sf Si Sj Sl Sg M H locs ls hP hD hS hI hl
  have z0 := lv_neT c0 (a := 0) rfl
  have z1 := lv_neT c1 (a := 1) rfl
  have z2 := lv_neT c2 (a := 2) rfl
  have z3 := lv_neT c3 (a := 3) rfl
  have z4 := lv_neT c4 (a := 4) rfl
  have z5 := lv_neT c5 (a := 5) rfl
  have z6 := lv_neT c6 (a := 6) rfl
  have z7 := lv_neT c7 (a := 7) rfl
  have z8 := lv_neT c8 (a := 8) rfl
  have z9 := lv_neT c9 (a := 9) rfl
  have z10 := lv_neT c10 (a := 10) rfl
  have z11 := lv_neT c11 (a := 11) rfl
  have z12 := lv_neT c12 (a := 12) rfl
  have z13 := lv_neT c13 (a := 13) rfl
  have z14 := lv_neT c14 (a := 14) rfl
  have z15 := lv_neT c15 (a := 15) rfl
  have z16 := lv_neT c16 (a := 16) rfl
  have z17 := lv_neT c17 (a := 17) rfl
  have z18 := lv_neT c18 (a := 18) rfl
  have z19 := lv_neT c19 (a := 19) rfl
  have z20 := lv_neT c20 (a := 20) rfl
  have z21 := lv_neT c21 (a := 21) rfl
  have z22 := lv_neT c22 (a := 22) rfl
  have z23 := lv_neT c23 (a := 23) rfl
  have z24 := lv_neT c24 (a := 24) rfl
  have z25 := lv_neT c25 (a := 25) rfl
  have z26 := lv_neT c26 (a := 26) rfl
  have z27 := lv_neT c27 (a := 27) rfl
  have z28 := lv_neT c28 (a := 28) rfl
  have z29 := lv_neT c29 (a := 29) rfl
  have z30 := lv_neT c30 (a := 30) rfl
  have z31 := lv_neT c31 (a := 31) rfl
  have z32 := lv_neT c32 (a := 32) rfl
  have z33 := lv_neT c33 (a := 33) rfl
  have z34 := lv_neT c34 (a := 34) rfl
  have z35 := lv_neT c35 (a := 35) rfl
  have z36 := lv_neT c36 (a := 36) rfl
  refine lv_tableOut (tgt := 1017) hx hb dL_law_32 (by omega) (by decide) ?_
  exact cont S Sn Sm Sf Si Sj Sl Sg M H locs ls hP hD hS hI hl
end LAWL
set_option maxHeartbeats 4000000 in
set_option maxRecDepth 100000 in
theorem law_loop {p : Program} {l : Launch} {e : Env} {s : State} {m : MethodId} {below : List Frame} {meth : Method} {c : Code} {D : va_G} {cy : ClassId} {b L : Nat} {xs : Nat → Int32} {ah an am af ai aj al ag az : Nat → Nat} (hL : L ≤ 2560) (hC : ∀ i : Nat, zLC p l e s m below meth c D cy b L xs ah an am af ai aj al ag az i) : ∀ (n i : Nat), i ≤ L + 5 → L + 6 ≤ i + n → zLs1 p l e s m below meth c D cy b L xs ah an am af ai aj al ag az i 18 := by
  obtain ⟨⟨hx, hb, hr, hml, hown0, hts, hX, hbl, hlocks, hgv⟩, hK, hN, hCo⟩ := hC 0
  have hbA : ¬ (fun q : Nat => s.heap.size ≤ q) b := Nat.not_le.mpr hbl
  intro n
  induction n with
  | zero =>
    intro i h1 h2
    exact absurd h2 (by omega)
  | succ n ih =>
    intro i h1 h2 S Sn Sm Sf Si Sj Sl Sg M H locs ls hP hD hS hI hl
    refine lv_iload_n hx hb dL_law_18 rfl (lv_at hl 3 rfl) ?_
    refine lv_aload_n hx hb dL_law_19 rfl (lv_at hl 0 rfl) ?_
    refine va_slen hx hb hX hbl hbA hS dL_law_20 ?_
    refine lv_iconst (v := (5 : Int32)) hx hb dL_law_21 (by decide) ?_
    refine lv_isub hx hb dL_law_22 ?_
    have e5 : (nI L - nI 5).toInt = (L : Int) - 5 := pk_sub_toInt (by omega) (by omega)
    refine lv_icmp_gt (tgt := 1023) hx hb dL_law_23 (by decide) (fun cg => ?_) (fun cg => ?_)
    · refine lv_iconst (v := 1) hx hb dL_law_1023 (by decide) ?_
      refine va_forget (fun q hq => hS.2.2 q hq) ?_
      exact lw_ret hx hb hr hlocks dL_law_1024
    · have hi : i + 5 ≤ L := by
        have g : ¬ (nI L - nI 5) < nI i := cg
        rw [zlt, e5, nI_toInt (by omega)] at g
        omega
      refine law_body (hC i) hi hL (fun S Sn Sm Sf Si Sj Sl Sg M H locs ls hP hD hS hI hl => ?_) S Sn Sm Sf Si Sj Sl Sg M H locs ls hP hD hS hI hl
      refine lv_iinc (v := nI (i + 5)) (lv' := [(3, .int (nI (i + 5))), (0, .ref b), (1, .ref (ah 99)), (2, .ref (az 99))]) hx hb dL_law_1017 hl (k := 3) rfl (by rw [← nI_add]; rfl) (by decide) rfl (fun ls hl => ?_)
      refine lv_goto (tgt := 18) hx hb dL_law_1020 (by decide) ?_
      exact ih (i + 5) (by omega) (by omega) S Sn Sm Sf Si Sj Sl Sg M H locs ls hP hD hS hI (lv_sub hl [1, 2, 3, 0] rfl)
set_option maxHeartbeats 4000000 in
set_option maxRecDepth 100000 in
theorem law_co {s : State} {b : Nat} (hts : ∀ w ∈ lw_tbl, w.before #[Value.ref b] s = true) (hgv : (Jvm.Cond.and given_1 narrow_1).before #[Value.ref b] s = true) : zCo (fun q : Nat => s.heap.size ≤ q) s s.heap := by
  have hs := flat_of_before _ hgv
  have hA : ∀ a : Nat, a < s.heap.size → ¬ (fun q : Nat => s.heap.size ≤ q) a := fun a h => Nat.not_le.mpr h
  have g : ∀ (w : Cond), w ∈ lw_tbl → w.before #[Value.ref b] s = true := hts
  have t1 : Cond.stringRef RX2 90 "prhbco" ∈ lw_tbl := List.mem_append_right _ (show _ ∈ tables_1 from List.mem_append_left _ (List.mem_of_getElem? (i := 233) (by decide +kernel)))
  have t2 : Cond.laysStatic "java/lang/String" "COMPACT_STRINGS" "Z" ∈ lw_tbl := List.mem_append_right _ (show _ ∈ tables_1 from List.mem_append_right _ (List.mem_append_left _ (List.mem_of_getElem? (i := 7) (by decide +kernel))))
  have t3 : Cond.laysStatic RX5 "LEAST_SET" "[I" ∈ lw_tbl := List.mem_append_right _ (show _ ∈ tables_1 from List.mem_append_right _ (List.mem_append_right _ (List.mem_append_right _ (List.mem_append_left _ (List.mem_of_getElem? (i := 143) (by decide +kernel))))))
  have t4 : Cond.laysStatic RX5 "MOST_SET" "[I" ∈ lw_tbl := List.mem_append_right _ (show _ ∈ tables_1 from List.mem_append_right _ (List.mem_append_right _ (List.mem_append_right _ (List.mem_append_left _ (List.mem_of_getElem? (i := 145) (by decide +kernel))))))
  have i5 : Cond.initialized RX5 ∈ lw_tbl := List.mem_append_right _ (show _ ∈ tables_1 from List.mem_append_left _ (List.mem_of_getElem? (i := 6) (by decide +kernel)))
  have iS : Cond.initialized "java/lang/String" ∈ lw_tbl := List.mem_append_right _ (show _ ∈ tables_1 from List.mem_append_left _ (List.mem_of_getElem? (i := 7) (by decide +kernel)))
  have j4 : ∀ j : Nat, j < 4 → j = 0 ∨ j = 1 ∨ j = 2 ∨ j = 3 := fun j h => by omega
  have j6 : ∀ j : Nat, j < 6 → j = 0 ∨ j = 1 ∨ j = 2 ∨ j = 3 ∨ j = 4 ∨ j = 5 := fun j h => by omega
  refine ⟨?_, ?_, ?_⟩
  · obtain ⟨a, cc, cA, kA, q1, q2, q3, q4, q5, q6, -⟩ := Cond.exactly_spec (args := #[Value.ref b]) (first := s) (o := none) (s := s) (idx := []) (t := .string "DoorIsHeld$Letters" 90) (cls := "java/lang/String") (hs _ (by decide +kernel) : (Cond.exactly (.string "DoorIsHeld$Letters" 90) "java/lang/String").before #[Value.ref b] s = true)
    obtain ⟨v, hv, hT⟩ := va_Tof (tm := .field (.string "DoorIsHeld$Letters" 90) "java/lang/String" "value" "[B") (ty := .byte) (N := 6) (f := fun j => .int (zKi j)) (A := fun q : Nat => s.heap.size ≤ q) (by decide) (hs _ (by decide +kernel)) (va_eqt (hs _ (by decide +kernel))) (fun j hj => by
      rcases j6 j hj with z | z | z | z | z | z <;> subst z <;> exact va_eqt (hs _ (by decide +kernel))) hA
    refine ⟨a, v, vk_R.of (g _ t1) q1, ⟨cA, q3, q5, by rw [q6]; exact q2, hA a (Array.getElem?_eq_some_iff.mp q3).1⟩, vk_OFof q1 (va_eqt (hs _ (by decide +kernel))) hA, vk_OFof q1 hv hA, hT, va_Zof (g _ t2) (g _ iS) (va_eqi (hs _ (by decide +kernel))) hA⟩
  · obtain ⟨t, ht, hT⟩ := va_Tof (tm := .static "DoorIsHeldModel" "LEAST_SET" "[I") (ty := .int) (N := 4) (f := fun j => .int (zLs j)) (A := fun q : Nat => s.heap.size ≤ q) (by decide) (hs _ (by decide +kernel)) (va_eqt (hs _ (by decide +kernel))) (fun j hj => by
      rcases j4 j hj with z | z | z | z <;> subst z <;> exact va_eqt (hs _ (by decide +kernel))) hA
    exact ⟨t, va_Zof (g _ t3) (g _ i5) ht hA, hT⟩
  · obtain ⟨t, ht, hT⟩ := va_Tof (tm := .static "DoorIsHeldModel" "MOST_SET" "[I") (ty := .int) (N := 4) (f := fun j => .int (zMo j)) (A := fun q : Nat => s.heap.size ≤ q) (by decide) (hs _ (by decide +kernel)) (va_eqt (hs _ (by decide +kernel))) (fun j hj => by
      rcases j4 j hj with z | z | z | z <;> subst z <;> exact va_eqt (hs _ (by decide +kernel))) hA
    exact ⟨t, va_Zof (g _ t4) (g _ i5) ht hA, hT⟩
set_option maxHeartbeats 4000000 in
set_option maxRecDepth 100000 in
theorem whole_start {p : Program} {e : Env} {s : State} {m : MethodId} {below : List Frame} {meth : Method} {c : Code} (l : Launch) (hflags : l.flags = flags0) {b L : Nat} {xs : Nat → Int32} (hL : L ≤ 2560) (C0 : lw_At p s m meth c b L xs) : W p l e room_1 s m #[Value.ref b] below meth c s.heap [] 0 0 (lw_Z below #[Value.ref b] s) (entryFrame m ([Value.ref b] : List Value).toArray 4) := by
  obtain ⟨hx, hb, hr, hml, hown0, hts, hX, hbl, hlocks, hgv⟩ := id C0
  have hown : s.vm.findClass RL = some m.cls := hown0
  have htB : ∀ w ∈ zB, w.before #[Value.ref b] s = true := fun w h => hts w (List.mem_filter.mp h).1
  have hA : ∀ q : Nat, s.heap.size ≤ q → (fun q : Nat => s.heap.size ≤ q) q := fun _ h => h
  have hbA : ¬ (fun q : Nat => s.heap.size ≤ q) b := Nat.not_le.mpr hbl
  have hN : ∀ w ∈ zN, va_Nw w s := fun w h => va_Nw.of (zN_tab w h) (hts w ((by decide +kernel : ∀ w ∈ zN, w ∈ lw_tbl) w h))
  have hCo := law_co hts hgv
  obtain ⟨c0, iS0, hKn0⟩ := u_known (C := RX0) (T := TX0) (N := 5) (n := 5) htB ziX0 (htB _ zm_493)
  obtain ⟨c1, iS1, hKn1⟩ := u_known (C := RX1) (T := TX1) (N := 11) (n := 11) htB ziX1 (htB _ zm_503)
  obtain ⟨c2, iS2, hKn2⟩ := u_known (C := RX2) (T := TX2) (N := 5) (n := 5) htB ziX2 (htB _ zm_498)
  obtain ⟨c3, iS3, hKn3⟩ := u_known (C := RX3) (T := TX3) (N := 3) (n := 3) htB ziX3 (htB _ zm_488)
  obtain ⟨c4, iS4, hKn4⟩ := u_known (C := RX4) (T := TX4) (N := 12) (n := 12) htB ziX4 (htB _ zm_805)
  obtain ⟨c5, iS5, hKn5⟩ := u_known (C := RX5) (T := TX5) (N := 41) (n := 41) htB ziX5 (htB _ zm_809)
  obtain ⟨dC, dI, hKc⟩ : ∃ (dC : Nat → ClassId) (dI : Nat → Nat → Nat), ∀ (k : Nat) (q : vw_C), zCl[k]? = some q → u_Kn s q.1 q.2.1 q.2.2 (dC k) (dI k) := by
    refine ⟨fun k => if k = 0 then c0 else if k = 1 then c1 else if k = 2 then c2 else if k = 3 then c3 else if k = 4 then c4 else c5, fun k => if k = 0 then iS0 else if k = 1 then iS1 else if k = 2 then iS2 else if k = 3 then iS3 else if k = 4 then iS4 else iS5, ?_⟩
    intro k q hq
    match k, hq with
    | 0, hq => cases hq; exact hKn0
    | 1, hq => cases hq; exact hKn1
    | 2, hq => cases hq; exact hKn2
    | 3, hq => cases hq; exact hKn3
    | 4, hq => cases hq; exact hKn4
    | 5, hq => cases hq; exact hKn5
    | k + 6, hq => simp [zCl] at hq
  obtain ⟨cy, hcy⟩ : ∃ cy : ClassId, va_K (dC, dI) zCl (zA cy) s := by
    obtain ⟨cy, kA, comp, h1, h2, h3⟩ := Cond.arrayClass_spec (args := #[Value.ref b]) (first := s) (o := none) (s := s) (idx := []) (htB _ zm_482 : (Cond.arrayClass FieldType.int).before #[Value.ref b] s = true)
    refine ⟨cy, hKc, fun k q hk => ?_⟩
    have hz : k < 1 := (List.getElem?_eq_some_iff.mp hk).1
    rw [show k = 0 by omega] at hk
    cases hk
    exact ⟨fun n z => ⟨fun k h => (by cases h), kA, h2, comp, h3⟩, h1⟩
  generalize hDg : ((dC, dI) : va_G) = D at hcy
  have hK := hcy
  have hS : va_S (fun q : Nat => s.heap.size ≤ q) s.heap s.heap [] := va_S.rf
  have hP : va_P D zCl [] s.heap := fun k q h => by simp at h
  have hD : va_D (fun q : Nat => s.heap.size ≤ q) [] := ⟨fun i j p q h => by simp at h, fun k q h => by simp at h⟩
  have hl := lv_entry ([.ref b]) (n := 4) (Nat.le_of_ble_eq_true rfl)
  rw [lg_entry_eq]
  generalize (lg_sl ([.ref b]) ++ List.replicate (4 - (lg_sl ([.ref b])).length) Slot.unset).toArray = ls at hl ⊢
  have hl : lv_has ls 4 [(0, .ref b)] := hl
  refine va_new (ci := 4) (fs := [.null, .null, .null, .null, .null, .int 0, .null, .null, .null, .null, .int 0, .null]) (C := RX4) (T := TX4) (N := 12) hx hb htB ziX4 tyX4 tyX4_ok hown (htB _ zm_804) (htB _ zm_805) (htB _ zm_4) hK hP hD hS hA rfl (by decide) (Nat.le_of_ble_eq_true rfl) (Nat.le_of_ble_eq_true rfl) dL_law_0 (fun q0 H hP hD hS => ?_)
  have hP : va_P D zCl [(q0, .inr (4, [.null, .null, .null, .null, .null, .int 0, .null, .null, .null, .null, .int 0, .null]))] H := hP
  have hD : va_D (fun q : Nat => s.heap.size ≤ q) [(q0, .inr (4, [.null, .null, .null, .null, .null, .int 0, .null, .null, .null, .null, .int 0, .null]))] := hD
  refine lv_dup hx hb dL_law_3 rfl ?_
  have hFc := va_free (wc := [(q0, .inr (4, [.null, .null, .null, .null, .null, .int 0, .null, .null, .null, .null, .int 0, .null]))]) hD hS hA [0] rfl
  refine va_callv (va_runI (As := []) (rest := [.ref q0]) ⟨hx, hb, hml, hown, htB⟩ (m_X4 l D cy q0 H.size) (cwI 0 htB (zgN zm_806) rfl rfl rfl (htB _ zm_4) (htB _ zm_812) (htB _ zm_807) rfl hdm_X4.2 ⟨Nat.le_of_ble_eq_true rfl, Nat.le_of_ble_eq_true rfl⟩) ⟨zM_blind, zM_pre hP hK hN hD⟩ rfl rfl hl.1 rfl (lv_room (Nat.le_of_ble_eq_true rfl)) dL_law_4 ⟨Nat.le_of_ble_eq_true rfl, Nat.le_of_ble_eq_true rfl⟩) hS (fun q _ h => hFc q h) hFc (fun u4 t H1 locs ht hvm _ hB hz1 hk1 hS => ?_)
  obtain ⟨hP1, hD1⟩ := hB
  rw [ht] at hP1
  obtain ⟨hP, hD⟩ := va_join (wr := []) (w1 := zW4 (zah (u4 0) q0) (u4 1) (u4 2) (u4 3) (u4 4) (u4 5) (u4 6) (u4 7) cy z0X4 z0X3 z0X3 z0X0 z0X3 z0X0 z0X2 z0X1) hP hD [0] [] rfl rfl (by decide) (by decide) hk1 hFc hP1 hD1
  generalize H1 = H at hP hS ⊢
  replace hP : va_P D zCl (zW4 (zah (u4 0) q0) (u4 1) (u4 2) (u4 3) (u4 4) (u4 5) (u4 6) (u4 7) cy z0X4 z0X3 z0X3 z0X0 z0X3 z0X0 z0X2 z0X1) H := hP
  replace hD : va_D (fun q : Nat => s.heap.size ≤ q) (zW4 (zah (u4 0) q0) (u4 1) (u4 2) (u4 3) (u4 4) (u4 5) (u4 6) (u4 7) cy z0X4 z0X3 z0X3 z0X0 z0X3 z0X0 z0X2 z0X1) := hD
  refine W.widen (k := 37) (n := 499) (Nat.le_of_ble_eq_true rfl) (Nat.le_of_ble_eq_true rfl) ?_
  refine lv_astore_n (lv' := [(1, .ref q0), (0, .ref b)]) hx hb dL_law_7 rfl hl (by decide) rfl (fun ls hl => ?_)
  refine va_new (ci := 5) (fs := [.null, .null, .null, .null, .null, .null, .null, .null, .null, .null, .null, .null, .null, .int 0, .int 0, .null, .null, .null, .null, .int 0, .int 0, .int 0, .null, .int 0, .int 0, .int 0, .null, .null, .null, .null, .null, .null, .null, .null, .null, .int 0, .int 0, .int 0, .null, .null, .int 0]) (C := RX5) (T := TX5) (N := 41) hx hb htB ziX5 tyX5 tyX5_ok hown (htB _ zm_808) (htB _ zm_809) (htB _ zm_263) hK hP hD hS hA rfl (by decide) (Nat.le_of_ble_eq_true rfl) (Nat.le_of_ble_eq_true rfl) dL_law_8 (fun q8 H hP hD hS => ?_)
  replace hP : va_P D zCl (zW4 (zah (u4 0) q0) (u4 1) (u4 2) (u4 3) (u4 4) (u4 5) (u4 6) (u4 7) cy z0X4 z0X3 z0X3 z0X0 z0X3 z0X0 z0X2 z0X1 ++ [(q8, .inr (5, [.null, .null, .null, .null, .null, .null, .null, .null, .null, .null, .null, .null, .null, .int 0, .int 0, .null, .null, .null, .null, .int 0, .int 0, .int 0, .null, .int 0, .int 0, .int 0, .null, .null, .null, .null, .null, .null, .null, .null, .null, .int 0, .int 0, .int 0, .null, .null, .int 0]))]) H := hP
  replace hD : va_D (fun q : Nat => s.heap.size ≤ q) (zW4 (zah (u4 0) q0) (u4 1) (u4 2) (u4 3) (u4 4) (u4 5) (u4 6) (u4 7) cy z0X4 z0X3 z0X3 z0X0 z0X3 z0X0 z0X2 z0X1 ++ [(q8, .inr (5, [.null, .null, .null, .null, .null, .null, .null, .null, .null, .null, .null, .null, .null, .int 0, .int 0, .null, .null, .null, .null, .int 0, .int 0, .int 0, .null, .int 0, .int 0, .int 0, .null, .null, .null, .null, .null, .null, .null, .null, .null, .int 0, .int 0, .int 0, .null, .null, .int 0]))]) := hD
  refine lv_dup hx hb dL_law_11 rfl ?_
  have hPc : va_P D zCl [(q8, .inr (5, [.null, .null, .null, .null, .null, .null, .null, .null, .null, .null, .null, .null, .null, .int 0, .int 0, .null, .null, .null, .null, .int 0, .int 0, .int 0, .null, .int 0, .int 0, .int 0, .null, .null, .null, .null, .null, .null, .null, .null, .null, .int 0, .int 0, .int 0, .null, .null, .int 0]))] H := hP.sub [37] rfl
  have hDc : va_D (fun q : Nat => s.heap.size ≤ q) [(q8, .inr (5, [.null, .null, .null, .null, .null, .null, .null, .null, .null, .null, .null, .null, .null, .int 0, .int 0, .null, .null, .null, .null, .int 0, .int 0, .int 0, .null, .int 0, .int 0, .int 0, .null, .null, .null, .null, .null, .null, .null, .null, .null, .int 0, .int 0, .int 0, .null, .null, .int 0]))] := hD.sub [37] (by decide) rfl
  have hFc := va_free (wc := [(q8, .inr (5, [.null, .null, .null, .null, .null, .null, .null, .null, .null, .null, .null, .null, .null, .int 0, .int 0, .null, .null, .null, .null, .int 0, .int 0, .int 0, .null, .int 0, .int 0, .int 0, .null, .null, .null, .null, .null, .null, .null, .null, .null, .int 0, .int 0, .int 0, .null, .null, .int 0]))]) hD hS hA [37] rfl
  refine va_callv (va_runI (As := []) (rest := [.ref q8]) ⟨hx, hb, hml, hown, htB⟩ (m_X5 l D cy q8 H.size) (cwI 0 htB (zgN zm_810) rfl rfl rfl (htB _ zm_263) (htB _ zm_813) (htB _ zm_811) rfl hdm_X5.2 ⟨Nat.le_of_ble_eq_true rfl, Nat.le_of_ble_eq_true rfl⟩) ⟨zM_blind, zM_pre hPc hK hN hDc⟩ rfl rfl hl.1 rfl (lv_room (Nat.le_of_ble_eq_true rfl)) dL_law_12 ⟨Nat.le_of_ble_eq_true rfl, Nat.le_of_ble_eq_true rfl⟩) hS (fun q _ h => hFc q h) hFc (fun u5 t H1 locs ht hvm _ hB hz1 hk1 hS => ?_)
  obtain ⟨hP1, hD1⟩ := hB
  rw [ht] at hP1
  obtain ⟨hP, hD⟩ := va_join (wr := zW4 (zah (u4 0) q0) (u4 1) (u4 2) (u4 3) (u4 4) (u4 5) (u4 6) (u4 7) cy z0X4 z0X3 z0X3 z0X0 z0X3 z0X0 z0X2 z0X1) (w1 := bX5 (zah u5 q8) cy z0X5) hP hD [37] [0, 1, 2, 3, 4, 5, 6, 7, 8, 9, 10, 11, 12, 13, 14, 15, 16, 17, 18, 19, 20, 21, 22, 23, 24, 25, 26, 27, 28, 29, 30, 31, 32, 33, 34, 35, 36] rfl rfl (by decide +kernel) (by decide +kernel) hk1 hFc hP1 hD1
  generalize H1 = H at hP hS ⊢
  refine W.widen (k := 67) (n := 1436) (Nat.le_of_ble_eq_true rfl) (Nat.le_of_ble_eq_true rfl) ?_
  refine lv_astore_n (lv' := [(2, .ref q8), (1, .ref q0), (0, .ref b)]) hx hb dL_law_15 rfl hl (by decide) rfl (fun ls hl => ?_)
  refine lv_iconst (v := 0) hx hb dL_law_16 (by decide) ?_
  refine lv_istore_n (lv' := [(3, .int 0), (2, .ref q8), (1, .ref q0), (0, .ref b)]) hx hb dL_law_17 rfl hl (by decide) rfl (fun ls hl => ?_)
  replace hP : va_P D zCl (zFl [bX4 (zah (u4 0) q0) (u4 1) (u4 2) (u4 3) (u4 4) (u4 5) (u4 6) (u4 7) cy z0X4, bX3 (u4 1) cy z0X3, bX3 (u4 2) cy z0X3, bX0 (u4 3) cy z0X0, bX3 (u4 4) cy z0X3, bX0 (u4 5) cy z0X0, bX2 (u4 6) cy z0X2, bX1 (u4 7) cy z0X1, bX5 (zah u5 q8) cy z0X5]) H := hP
  replace hD : va_D (fun q : Nat => s.heap.size ≤ q) (zFl [bX4 (zah (u4 0) q0) (u4 1) (u4 2) (u4 3) (u4 4) (u4 5) (u4 6) (u4 7) cy z0X4, bX3 (u4 1) cy z0X3, bX3 (u4 2) cy z0X3, bX0 (u4 3) cy z0X0, bX3 (u4 4) cy z0X3, bX0 (u4 5) cy z0X0, bX2 (u4 6) cy z0X2, bX1 (u4 7) cy z0X1, bX5 (zah u5 q8) cy z0X5]) := hD
  exact law_loop (ah := zah (u4 0) q0) (an := u4 1) (am := u4 2) (af := u4 3) (ai := u4 4) (aj := u4 5) (al := u4 6) (ag := u4 7) (az := zah u5 q8) hL (fun _ => ⟨C0, hK, hN, hCo⟩) (L + 6) 0 (by omega) (by omega) z0X4 z0X3 z0X3 z0X0 z0X3 z0X0 z0X2 z0X1 z0X5 H _ ls hP hD hS Inv_0 (lv_sub hl [3, 2, 1, 0] rfl)
set_option maxHeartbeats 4000000 in
theorem lw_walk (l : Launch) (hflags : l.flags = flags0) (b : Addr) (xs : List Int32) : MetFree l x (headSpec (Jvm.Cond.code x code maxLocals ret :: tables_1) room_1) (lw_P b xs) (fun _ _ _ _ _ => True) lw_Q := by
  refine MetFree.of_bodyS (code := code) (maxLocals := maxLocals) (ret := ret) (by decide) ?_ ?_
  · intro args s m h hn
    obtain ⟨meth, c, h1, h2, h3, h4, h5, h6, -, -⟩ := Cond.code_spec hn (atoms_spec (ws := Jvm.Cond.code x code maxLocals ret :: tables_1) h _ List.mem_cons_self)
    exact ⟨meth, c, h1, h2, h3, h4, h5, h6⟩
  · intro p e s m args below meth c s₁ B hml0 hP _
    obtain ⟨rfl, hx, hbd, hgv⟩ := hP
    obtain ⟨scr, harrAt, hlist, hof, hsmall⟩ := hx
    obtain ⟨hcb, hkn, -, -⟩ := State.arrayAt?_spec harrAt
    have hown : s.vm.findClass R_law = some m.cls := findClass_of_methodNamed B.named
    have hts0 : ∀ c ∈ (Jvm.Cond.code x code maxLocals ret :: tables_1), c.before #[Value.ref b] s = true := atoms_spec (ws := Jvm.Cond.code x code maxLocals ret :: tables_1) B.pre
    have hts : ∀ w ∈ lw_tbl, w.before #[Value.ref b] s = true := k2_hts_sels lw_privs (fun w hw => hts0 w (List.mem_cons_of_mem _ hw)) lw_privs_ok
    have hml : c.maxLocals = 4 := B.maxLocals_eq (hts0 _ List.mem_cons_self)
    have X₀ : Stand p l e room_1 s m #[Value.ref b] below meth c s₁ [] 0 0 := Stand.of_body B
    have hh0 : s₁.heap = s.heap := by rw [B.state]; rfl
    have hsz : scr.slots.size = xs.length := by rw [← Array.length_toList, hlist, List.length_map]
    have hval : ∀ j : Nat, j < xs.length → scr.slots[j]? = some (.int (xs.getD j 0)) := fun j hj => by
      rw [← Array.getElem?_toList, hlist]
      simp [hj]
    have hbl : b < s.heap.size := (Array.getElem?_eq_some_iff.mp hcb).1
    have hX : va_X b xs.length (fun j => xs.getD j 0) s s.heap := ⟨scr, hcb, hof, hkn, hsz, hval⟩
    have K : W p l e room_1 s m #[Value.ref b] below meth c s₁.heap [] 0 0 (lw_Z below #[Value.ref b] s) (entryFrame m ([Value.ref b] : List Value).toArray 4) := by
      rw [hh0]
      exact whole_start l hflags hbd ⟨B.exec, B.bytes, B.returns, hml, hown, hts, hX, hbl, B.notSynchronized, hgv⟩
    obtain ⟨t, a1, o, b1, b2, b3⟩ := K s₁ rfl X₀
    exact ⟨t, o, a1, b1, b2, b3⟩
theorem lw_pre_spec {args : Array Value} {s : State} (h : (Jvm.Cond.and given_1 narrow_1).before args s = true) (hr : rest_1_c.before args s = true) : ∃ (b : Addr) (xs : List Int32), lw_P b xs args s := by
  have hs := flat_of_before _ h
  have hq := flat_of_before _ hr
  have hc : (Cond.count 1).before args s = true := hs _ (by decide +kernel)
  have harr : (Cond.arrayOf (.arg 0) .int).before args s = true := hs _ (by decide +kernel)
  have hle : (Cond.le (.length (.arg 0)) (.int 2560)).before args s = true := hs _ (by decide +kernel)
  have hlen : (Cond.isInt (.length (.arg 0))).before args s = true := hq _ (by decide +kernel)
  have hall : (Cond.all (.arg 0) (.isInt (.elem (.arg 0) (.index 0)))).before args s = true := hq _ (by decide +kernel)
  obtain ⟨b, xs, hb, hx⟩ := State.ints_of_pre rfl harr hlen hall
  have hsm : xs.length < 2 ^ 31 := hx.choose_spec.2.2.2
  have hev : (Term.length (.arg 0)).eval args s none [] s = some (.int xs.length.toInt32) := hx.length_eval hb
  have hv := Cond.le_ints hev (show (Term.int 2560).eval args s none [] s = some (.int 2560) from rfl)
  have hd : xs.length.toInt32 ≤ 2560 := by
    simpa [Cond.before, Cond.holds, hv] using hle
  have hN : xs.length ≤ 2560 := (Int32.ofNat_le_ofNat hsm (by decide)).mp (show Int32.ofNat xs.length ≤ Int32.ofNat 2560 from hd)
  exact ⟨b, xs, Cond.one_arg hc (show args[0]? = some (.ref b) from hb), hx, hN, h⟩
theorem lw_comes (l : Launch) (hflags : l.flags = flags0) : Comes l x (Jvm.Cond.code x code maxLocals ret :: tables_1) room_1 (fun tb e args s => Calls_1 tb e args s ∧ rest_1 tb e args s ∧ Pre_1 tb e args s)
    (fun _ _ args s o t => lw_Q args s o t) := by
  intro p e ha hc hk s m args below hf hfit hheap happ hpre
  obtain ⟨b, xs, hP⟩ := lw_pre_spec hpre.2.2 hpre.2.1
  obtain ⟨k, o, h1, h2, h3, hQ⟩ := lw_walk l hflags b xs p e ha hc hk s m args below hf ((Spec.applies_iff_loose hf).mp happ).1 hP trivial
  exact ⟨k, o, h1, h2, h3, hQ⟩
theorem lw_frame {s t : State} {o : Outcome} {args : Array Value} (h : Framed s o t [] 67 1436) :
    Framed s o t (fieldLocs frame_1_writes args s ++ arrayLocs frame_1_arrays args s ++ staticLocs frame_1_statics s) 67 1436 := h
theorem lw_limb (L : Cond) (hL : ∀ (args : Array Value) (s t : State), L.after args s (.returned (some (.int 1))) t = true) :
    ArmFor flags0 classFile x code maxLocals ret World_1 tables_1 room_1 Calls_1 rest_1 Pre_1
      (fun tb e a s o t => postC L tb e a s o t ∧ Framed s o t (fieldLocs frame_1_writes a s ++ arrayLocs frame_1_arrays a s ++ staticLocs frame_1_statics s) 67 1436) := by
  intro l hflags _ _ p e ha hc hk s m args below hf hfit hheap happ hpre
  obtain ⟨k, o, h1, h2, h3, rfl, hF⟩ := lw_comes l hflags p e ha hc hk s m args below hf hfit hheap happ hpre
  exact ⟨k, _, h1, h2, h3, hL args s _, lw_frame hF⟩
theorem i_vc : Claimed_1_1 ∧ Claimed_1_2 := ⟨lw_limb limb_1_1 (fun args s t => by simp [limb_1_1, Cond.after, Cond.holds, Cond.value]), lw_limb limb_1_2 (fun args s t => Cond.after_iff.mpr (by
  first | (rw [show limb_1_2 = Cond.eq .result (.int 1) from rfl, Cond.eq_ints (x := 1) (y := 1) rfl rfl]; simp; done) | (simp [limb_1_2, Cond.value, Term.eval]; done)))⟩

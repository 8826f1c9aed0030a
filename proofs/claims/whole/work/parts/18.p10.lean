section OK2
variable {E N F IT IF L M G Mi : zT}
theorem same_loss {T G M S : zT} {n : Nat} (hG : zG T n G) (hS : zMG T n P00 M S) : zsum (G 7) n = zsum (qL T n P00) n := by
  rw [← zsw_f]
  have e := zsw_q (T := T) (n := n) (P0 := P00) (f := G 7) (g := qL T n P00) (fun j hj => (hG.2 j (by rw [zcn_f] at hj; exact hj)).2.2.2.2.2.2.2)
  rw [e, zcn_f]
theorem tot_loss {T G : zT} {n : Nat} (hG : zG T n G) : zsum (G 7) n = zsum (qL T n P00) n := by
  rw [← zsw_f]
  have e := zsw_q (T := T) (n := n) (P0 := P00) (f := G 7) (g := qL T n P00) (fun j hj => (hG.2 j (by rw [zcn_f] at hj; exact hj)).2.2.2.2.2.2.2)
  rw [e, zcn_f]
theorem R_all {T : zT} {n : Nat} {Q : Int32 → zT → Prop} (hV : zV T n) (h : ∀ G' : zT, Q (zsum (qL T n P00) n) G') : wp_X4_allLoss E T G Q :=
  R_run hV.1 hV.2.1 (fun G' hG => R_loss hG.1 hV.2.1 (by rw [tot_loss hG]; exact h G'))
theorem M_tot {T M S : zT} {n : Nat} {Q : Int32 → Prop} (R : TR T S) (hV : zV T n) (hS : zMG T n P00 M S) (h : Q (zsum (qL T n P00) n)) : wp_X5_lossOfAll S Q := by
  refine M_loss (M := M) R hV.2.1 hS.2.1 hS.2.2.1 ?_
  rw [zcn_f]
  exact h
theorem ok_loss {i : Int32} (hI : Inv E N F IT IF L M) : wp_X4_loss N i E G (fun r E' _ => wp_X5_loss i M (fun r' M' => r' = r ∧ Inv E' N F IT IF L M')) := by
  obtain ⟨R, ⟨n, hV⟩, -⟩ := id hI
  have h8 := hV.2.1
  refine ⟨fun c => R_all hV (fun G' => zt c ?_), fun c => ?_⟩
  · unfold wpb_X5_loss_19
    refine M_all R hV (fun S hS => zt c (M_tot (TR_keep R hS.1) hV hS ⟨rfl, Inv_mKeep hI hS.1⟩))
  · unfold wp_X4_answerOf_k7
    refine W2 R hV (fun w hw e hm => ?_) (fun hm => ?_)
    · refine zf (by decide) (R_run hV.1 h8 (fun G' hG => R_at e (by omega) (by decide) (zf c (hm _ (zf (by decide) ?_)))))
      unfold wpb_X5_loss_19
      refine M_all R hV (fun S hS => zf c ?_)
      obtain ⟨hk, -, hr, -⟩ := hS
      obtain ⟨j, hj, ej⟩ := who (T := N) hw
      have hrow := hr j (by rw [zcn_f]; exact hj)
      rw [e]
      refine M_lossOf (n := n) (TR_keep R hk) (by omega) ⟨?_, Inv_mKeep hI hk⟩
      rw [← ej, hrow.2.2.2.1, hrow.2.2.2.2.1, hrow.2.2.2.2.2.2, (hG.2 j hj).2.2.2.2.2.2.2]
      rfl
    · exact zt rfl (RF 0 (by decide) rfl (zf c (hm _ (zt rfl (MN 0 (by decide) rfl ⟨rfl, Inv_ref hI 0 (by decide)⟩)))))
theorem same_at {T G M S : zT} {n w : Nat} (hG : zG T n G) (hS : zMG T n P00 M S) (hw : w < n) : G 5 w = S 31 w ∧ G 4 w = S 30 w ∧ G 3 w = S 29 w ∧ G 7 w = qL T n P00 0 + (G 7 w - qL T n P00 0) := by
  obtain ⟨j, hj, ej⟩ := who (T := T) hw
  have h1 := hG.2 j hj
  have h2 := hS.2.2.1 j (by rw [zcn_f]; exact hj)
  rw [← ej]
  refine ⟨by rw [h1.2.2.2.2.2.1, h2.2.2.2.2.2.1], by rw [h1.2.2.2.2.1, h2.2.2.2.2.1], by rw [h1.2.2.2.1, h2.2.2.2.1], ?_⟩
  rw [zeq]
  simp only [Int32.toInt_add, Int32.toInt_sub, Int.add_bmod_bmod]
  rw [show (qL T n P00 0).toInt + ((G 7 (q1 T n P00 j)).toInt - (qL T n P00 0).toInt) = (G 7 (q1 T n P00 j)).toInt by omega]
  exact (Int32.toInt_bmod _).symm
theorem ok_holds (hI : Inv E N F IT IF L M) : wp_X4_holds E N G (fun r _ => wp_X5_holds M (fun r' M' => r' = r ∧ Inv E N F IT IF L M')) := by
  obtain ⟨R, ⟨n, hV⟩, -⟩ := id hI
  have h8 := hV.2.1
  refine R_run hV.1 h8 (fun G' hG => R_cnt hG.1 h8 (M_all R hV (fun S hS => M_cnt ((TR_keep R hS.1).2.2.trans hV.1) h8 ⟨?_, Inv_mKeep hI hS.1⟩)))
  exact zsum_cong (fun w hw => by rw [(same_at hG hS hw).1])
theorem M_mx {S : zT} {n : Nat} {Q : Int32 → zT → Prop} (hn : S 13 0 = nI n) (h8 : n ≤ 8) (h : Q (zmx (S 30) n) S) : ∃ nn : Nat, wpl_X5_longest_8 Q nn 0 0 S := by
  have key : ∀ k i : Nat, i + k = n → wpl_X5_longest_8 Q (k + 1) (zmx (S 30) i) (nI i) S := by
    intro k
    induction k with
    | zero =>
      intro i hi
      have : i = n := by omega
      subst this
      exact zt (by rw [hn]; exact Int32.le_refl _) h
    | succ k ih =>
      intro i hi
      have ih' := ih (i + 1) (by omega)
      refine zf (by rw [hn]; exact nI_ge (by omega) (by omega)) ⟨zv8 (by omega), ?_⟩
      rw [zcl (by omega)]
      refine ⟨fun c => ?_, fun c => ⟨zv8 (by omega), ?_⟩⟩
      · rintro _ rfl
        rw [show nI i + (1 : Int32) = nI (i + 1) from nI_1 i]
        have e : zmx (S 30) (i + 1) = zmx (S 30) i := by
          show (if zmx (S 30) i < S 30 i then S 30 i else zmx (S 30) i) = _
          rw [if_neg (znl.mpr c)]
        rw [← e]
        exact ih'
      · rintro _ rfl
        rw [show nI i + (1 : Int32) = nI (i + 1) from nI_1 i]
        have e : zmx (S 30) (i + 1) = S 30 i := by
          show (if zmx (S 30) i < S 30 i then S 30 i else zmx (S 30) i) = _
          rw [if_pos (znle.mp c)]
        rw [← e]
        exact ih'
  exact ⟨n + 1, key n 0 (by omega)⟩
theorem ok_longest (hI : Inv E N F IT IF L M) : wp_X4_longest E N G (fun r _ => wp_X5_longest M (fun r' M' => r' = r ∧ Inv E N F IT IF L M')) := by
  obtain ⟨R, ⟨n, hV⟩, -⟩ := id hI
  have h8 := hV.2.1
  refine R_run hV.1 h8 (fun G' hG => R_mx hG.1 h8 (M_all R hV (fun S hS => M_mx ((TR_keep R hS.1).2.2.trans hV.1) h8 ⟨?_, Inv_mKeep hI hS.1⟩)))
  exact zmx_cong (fun w hw => by rw [(same_at hG hS hw).2.1])
theorem ok_order {i : Int32} (hI : Inv E N F IT IF L M) : wp_X4_order N i E G (fun r E' _ => wp_X5_order i M (fun r' M' => r' = r ∧ Inv E' N F IT IF L M')) := by
  obtain ⟨R, ⟨n, hV⟩, -⟩ := id hI
  have h8 := hV.2.1
  refine ⟨fun c => ⟨fun c2 => ?_, fun c2 => zt c (M_all R hV (fun S hS => zt ?_ ⟨rfl, Inv_mKeep hI hS.1⟩))⟩, fun c => RF 3 (by decide) rfl (zf c (MN 3 (by decide) rfl ⟨rfl, Inv_ref hI 3 (by decide)⟩))⟩
  · rw [hV.1] at c2
    rcases pk_ix i (n := n) (by omega) with q | q | ⟨j, hj, e⟩
    · exact absurd c (znle.mpr q)
    · exact absurd c2 (znl.mpr q)
    · refine R_run hV.1 h8 (fun G' hG => R_at e (by omega) (by decide) (zt c (M_all R hV (fun S hS => zf ?_ ?_))))
      · rw [hS.2.1, zcn_f]; exact znle.mpr c2
      · rw [e, zcl (by omega)]
        refine ⟨zv8 (by omega), ?_, Inv_mKeep hI hS.1⟩
        rw [(hS.2.2.1 j (by rw [zcn_f]; exact hj)).1, (hG.2 j hj).1]
  · rw [hV.1] at c2
    rw [hS.2.1, zcn_f]
    exact znl.mp c2
theorem ok_away (hI : Inv E N F IT IF L M) : wp_X4_away E N G (fun r _ => wp_X5_away M (fun r' M' => r' = r ∧ Inv E N F IT IF L M')) := by
  obtain ⟨R, ⟨n, hV⟩, -⟩ := id hI
  have h8 := hV.2.1
  have hc : zcn P00 n = n := zcn_f n
  refine ⟨fun c => M_all R hV (fun S hS => zt ?_ ⟨rfl, Inv_mKeep hI hS.1⟩), fun c => ?_⟩
  · rw [hS.2.1, hc, ← hV.1]; exact c
  · have hn : 0 < n := by
      rcases Nat.eq_zero_or_pos n with z | z
      · rw [hV.1, z] at c; exact absurd rfl c
      · exact z
    have hl : q1 N n P00 0 < n := q1_lt (by omega)
    refine R_run hV.1 h8 (fun G' hG => R_at (j := 0) rfl (by decide) (by decide) ?_)
    rw [(hG.2 0 hn).1]
    refine R_at rfl (show q1 N n P00 0 < 8 by omega) (by decide) (R_at rfl (show q1 N n P00 0 < 8 by omega) (by decide) (M_all R hV (fun S hS => zf ?_ ?_)))
    · rw [hS.2.1, hc, ← hV.1]; exact c
    · have hr := hS.2.2.1 0 (by omega)
      have e26 : S 26 ((0 : Int32)).toNatClampNeg = nI (q1 N n P00 0) := hr.1
      rw [e26, zcl (by omega)]
      refine ⟨zv8 (w := 0) (by decide), zv8 (by omega), zv8 (w := 0) (by decide), zv8 (by omega), ?_, Inv_mKeep hI hS.1⟩
      rw [hr.2.2.1, hr.2.2.2.2.1, (hG.2 0 hn).2.2.1, (hG.2 0 hn).2.2.2.2.1]
theorem ok_open (hI : Inv E N F IT IF L M) : wp_X4_open E N G (fun r _ => wp_X5_open M (fun r' M' => r' = r ∧ Inv E N F IT IF L M')) := by
  obtain ⟨R, ⟨n, hV⟩, -⟩ := id hI
  refine R_run hV.1 hV.2.1 (fun G' hG => R_door (k := 0) rfl (by decide) (R_open hV.2.1 hG (M_all R hV (fun S hS => M_open hV hS ⟨?_, Inv_mKeep hI hS.1⟩))))
  rw [zcn_f]
theorem ok_coals (hI : Inv E N F IT IF L M) : wp_X4_coals E N G (fun r _ => wp_X5_coals M (fun r' M' => r' = r ∧ Inv E N F IT IF L M')) := by
  obtain ⟨R, ⟨n, hV⟩, -⟩ := id hI
  refine R_run hV.1 hV.2.1 (fun G' hG => R_door (k := 0) rfl (by decide) (R_open hV.2.1 hG (R_door (k := 2) rfl (by decide) (M_all R hV (fun S hS => M_open hV hS ⟨vp_in_nI (n := 2) (by decide) (by decide), ?_, Inv_mKeep hI hS.1⟩)))))
  have e8 : S 8 ((2 : Int32)).toNatClampNeg = N 0 2 := (TR_keep R hS.1).1 2 (by decide)
  rw [zcn_f, e8]
end OK2

section OK6
variable {E N F IT IF L M G Mi : zT}
theorem M_lossOf7 {T S : zT} {w : Nat} {Q : Int32 → Prop} (R : ∀ w : Nat, w < 8 → S 7 w = tv T w 6) (hw : w < 8) (h : Q (tv T w 6 * (S 29 w + S 30 w) + S 32 w)) : wp_X5_lossOf S (nI w) Q := by
  refine ⟨zv8 hw, zv8 hw, zv8 hw, zv8 hw, ?_⟩
  rw [zcl (by omega), R w hw]
  exact h
theorem M_loss7 {T S : zT} {n : Nat} {P0 : Nat → Bool} {Q : Int32 → Prop} (R : ∀ w : Nat, w < 8 → S 7 w = tv T w 6) (h8 : n ≤ 8) (h36 : S 36 0 = nI (zcn P0 n)) (hr : ∀ j : Nat, j < zcn P0 n → mRow T n P0 S j) (h : Q (zsum (qL T n P0) (zcn P0 n))) : wp_X5_lossOfAll S Q := by
  have hc := zcn_le P0 n
  have key : ∀ k i : Nat, i + k = zcn P0 n → wpl_X5_lossOfAll_4 S Q (k + 1) (zsum (qL T n P0) i) (nI i) := by
    intro k
    induction k with
    | zero =>
      intro i hi
      have : i = zcn P0 n := by omega
      subst this
      exact zt (by rw [h36]; exact Int32.le_refl _) h
    | succ k ih =>
      intro i hi
      have hrow := hr i (by omega)
      have hl : q1 T n P0 i < n := q1_lt (by omega)
      refine zf (by rw [h36]; exact nI_ge (by omega) (by omega)) ⟨zv8 (by omega), ?_⟩
      rw [zcl (by omega), hrow.1]
      refine M_lossOf7 R (by omega) ?_
      rw [hrow.2.2.2.1, hrow.2.2.2.2.1, hrow.2.2.2.2.2.2]
      rintro _ rfl
      rintro _ rfl
      rw [show nI i + (1 : Int32) = nI (i + 1) from nI_1 i]
      exact ih (i + 1) (by omega)
  exact ⟨zcn P0 n + 1, key _ 0 (by omega)⟩
/-- the told door with another CUSTOM and FAR -/
def zCF (N : zT) (c f : Int32) : zT := zNs (zNs N 4 c) 3 f
theorem zV_CF {n c f : Nat} (hV : zV N n) (hc : c ≤ 6) (hf : f ≤ 40) : zV (zCF N (nI c) (nI f)) n := zV_side (zV_side hV (by decide) (Or.inl (by omega)) (fun z => by cases z) (fun _ => hc)) (by decide) (Or.inr ⟨rfl, hf⟩) (fun z => by cases z) (fun z => by cases z)
theorem M_lossBy {n c f : Nat} {Q : Int32 → zT → Prop} (R : TR N M) (hV : zV N n) (hc : c ≤ 6) (hf : f ≤ 40)
    (h : ∀ S : zT, mKeep M S → (∀ j : Nat, j < n → mRow (zCF N (nI c) (nI f)) n P00 S j) → Q (zsum (qL (zCF N (nI c) (nI f)) n P00) n) S) : wp_X5_lossBy (nI c) (nI f) M Q := by
  have v4 : vp_in (4 : Int32) 5 := vp_in_nI (n := 4) (by decide) (by decide)
  have v3 : vp_in (3 : Int32) 5 := vp_in_nI (n := 3) (by decide) (by decide)
  have c4 : ((4 : Int32)).toNatClampNeg = 4 := rfl
  have c3 : ((3 : Int32)).toNatClampNeg = 3 := rfl
  unfold wp_X5_lossBy
  rw [c4, c3]
  refine ⟨v4, ?_⟩
  rintro _ rfl
  refine ⟨v3, ?_⟩
  rintro _ rfl
  refine ⟨v4, ?_⟩
  rintro _ rfl
  refine ⟨v3, ?_⟩
  rintro _ rfl
  have R2 : TR (zCF N (nI c) (nI f)) (va_up (va_up M 8 (upd (M 8) 4 (nI c))) 8 (upd ((va_up M 8 (upd (M 8) 4 (nI c))) 8) 3 (nI f))) := TR_side (TR_side R)
  have hV2 := zV_CF hV hc hf
  refine M_all R2 hV2 (fun S hS => ⟨v4, ?_⟩)
  rintro _ rfl
  refine ⟨v3, ?_⟩
  intro S2 e2
  obtain ⟨hk, h36, hr, -⟩ := hS
  have hcz : zcn P00 n = n := zcn_f n
  have k2 : mKeep M S2 := by
    intro j hj
    rw [e2]
    by_cases z : j = 8
    · subst z
      show upd (upd (S 8) 4 (M 8 4)) 3 (M 8 3) = M 8
      have e8 : S 8 = upd (upd (M 8) 4 (nI c)) 3 (nI f) := hk 8 (Or.inl (by decide))
      funext p
      rw [e8]
      by_cases z3 : p = 3
      · subst z3; rw [pk_us]
      · rw [pk_un z3]
        by_cases z4 : p = 4
        · subst z4; rw [pk_us]
        · rw [pk_un z4, pk_un z3, pk_un z4]
    · show (va_up (va_up S 8 _) 8 _) j = M j
      unfold va_up
      rw [if_neg z, if_neg z]
      have := hk j hj
      rw [this]
      unfold va_up
      rw [if_neg z, if_neg z]
  have hr2 : ∀ j : Nat, j < n → mRow (zCF N (nI c) (nI f)) n P00 S2 j := by
    intro j hj
    have := hr j (by omega)
    rw [e2]
    exact this
  have q := h S2 k2 hr2
  refine M_loss7 (T := zCF N (nI c) (nI f)) (n := n) (P0 := P00) (fun w hw => ?_) hV.2.1 ?_ (fun j hj => hr2 j (by omega)) ?_
  · rw [k2 7 (Or.inl (by decide))]
    exact (R.2.1 w hw).2.2.2.2.2.2
  · rw [e2]
    exact h36
  · rw [hcz]
    exact q
theorem ok_byOther {c f : Int32} (hI : Inv E N F IT IF L M) : wp_X4_byOther N c f E Mi G (fun r E' _ _ => wp_X5_byOther c f M (fun r' M' => r' = r ∧ Inv E' N F IT IF L M')) := by
  obtain ⟨R, ⟨n, hV⟩, -⟩ := id hI
  have bad : (c < 0 ∨ 6 < c) → wp_X4_refuse (-2) E (fun r E' => wp_X5_byOther c f M (fun r' M' => r' = r ∧ Inv E' N F IT IF L M')) := by
    intro z
    refine RF 1 (by decide) rfl (I0 z (zt rfl ?_))
    unfold wpb_X5_byOther_22
    exact zf (by decide) (MN 1 (by decide) rfl ⟨rfl, Inv_ref hI 1 (by decide)⟩)
  refine ⟨fun c1 => zt rfl (bad (Or.inl c1)), fun c1 => ⟨fun c2 => zt rfl (bad (Or.inr c2)), fun c2 => zf (by decide) ⟨fun c3 => ⟨fun c4 => ?_, fun c4 => ?_⟩, fun c3 => ?_⟩⟩⟩
  · obtain ⟨cn, hcn, ec⟩ := nI_of2 (x := c) (M := 6) (n := 6) rfl c1 (znl.mp c2)
    obtain ⟨fn, hfn, ef⟩ := nI_of2 (x := f) (M := 40) (n := 40) rfl (znl.mpr c3) c4
    refine R_bec (fun B hB => R_chg (k := 4) rfl (by decide) (R_chg (k := 3) rfl (by decide) ?_))
    have hT : TEq (zNs (zNs B 4 c) 3 f) (zCF N (nI cn) (nI fn)) := by rw [ec, ef]; exact TEq_side (TEq_side hB)
    have hV2 := TEq_zV hT (zV_CF hV hcn hfn)
    refine R_all hV2 (fun G' => I1 c1 c2 (zf (by decide) (B0 c3 c4 (zt rfl ?_))))
    rw [tot_cong hT hV.2.1, ec, ef]
    exact M_lossBy R hV hcn hfn (fun S hk _ => ⟨rfl, Inv_mKeep hI hk⟩)
  · exact RF 5 (by decide) rfl (I1 c1 c2 (zf (by decide) (B6 c3 c4 (zf (by decide) (MN 5 (by decide) rfl ⟨rfl, Inv_ref hI 5 (by decide)⟩)))))
  · exact RF 3 (by decide) rfl (I1 c1 c2 (zf (by decide) (B4 c3 (zf (by decide) (MN 3 (by decide) rfl ⟨rfl, Inv_ref hI 3 (by decide)⟩)))))
/-- the sides as numbers -/
theorem V_side {n : Nat} (hV : zV N n) : ∃ d : Nat → Nat, (∀ k : Nat, k < 5 → N 0 k = nI (d k)) ∧ 1 ≤ d 0 ∧ d 0 ≤ 9 ∧ d 1 ≤ 9 ∧ d 2 ≤ 9 ∧ d 3 ≤ 40 ∧ d 4 ≤ 6 := hV.2.2.1
theorem CF_far {n : Nat} {c : Int32} {B : zT} (hB : TEq B N) : TEq (zNs B 4 c) (zCF N c (N 0 3)) := by
  refine ⟨fun j hj => ?_, hB.2.1, hB.2.2⟩
  show upd (B 0) 4 c j = upd (upd (N 0) 4 c) 3 (N 0 3) j
  by_cases z : j = 4
  · subst z; rw [pk_us, pk_un (by decide), pk_us]
  · rw [pk_un z]
    by_cases z3 : j = 3
    · subst z3; rw [pk_us]; exact hB.1 3 (by decide)
    · rw [pk_un z3, pk_un z]; exact hB.1 j hj
theorem CF_cus {n : Nat} {f : Int32} {B : zT} (hB : TEq B N) : TEq (zNs B 3 f) (zCF N (N 0 4) f) := by
  refine ⟨fun j hj => ?_, hB.2.1, hB.2.2⟩
  show upd (B 0) 3 f j = upd (upd (N 0) 4 (N 0 4)) 3 f j
  by_cases z : j = 3
  · subst z; rw [pk_us, pk_us]
  · rw [pk_un z, pk_un z]
    by_cases z4 : j = 4
    · subst z4; rw [pk_us]; exact hB.1 4 (by decide)
    · rw [pk_un z4]; exact hB.1 j hj
theorem ok_porter (hI : Inv E N F IT IF L M) : wp_X4_porter E N Mi G (fun r _ _ => wp_X5_porter M (fun r' M' => r' = r ∧ Inv E N F IT IF L M')) := by
  obtain ⟨R, ⟨n, hV⟩, -⟩ := id hI
  obtain ⟨d, hd, d0, d0', d1, d2, d3, d4⟩ := V_side hV
  unfold wp_X4_porter wp_X4_runByNever
  refine R_bec (fun B hB => R_chg (k := 4) rfl (by decide) ?_)
  have hT : TEq (zNs B 4 0) (zCF N (nI 0) (nI (d 3))) := by rw [← hd 3 (by decide)]; exact CF_far (n := n) hB
  have hV2 := TEq_zV hT (zV_CF hV (by decide) d3)
  refine R_run hV2.1 hV2.2.1 (fun G' hG => R_loss hG.1 hV2.2.1 ⟨vp_in_nI (n := 3) (by decide) (by decide), ?_⟩)
  have e3 : M 8 ((3 : Int32)).toNatClampNeg = nI (d 3) := by rw [← hd 3 (by decide)]; exact R.1 3 (by decide)
  rw [e3, tot_loss hG, tot_cong hT hV.2.1]
  exact M_lossBy (c := 0) R hV (by decide) d3 (fun S hk _ => ⟨rfl, Inv_mKeep hI hk⟩)
/-- of several the least number with the least loss -/
def zbst (f : Nat → Int32) : Nat → Nat
  | 0 => 0
  | v + 1 => if f (zbst f v) ≤ f (v + 1) then zbst f v else v + 1
theorem zbst_le (f : Nat → Int32) : ∀ v : Nat, zbst f v ≤ v
  | 0 => Nat.le_refl _
  | v + 1 => by
    have := zbst_le f v
    show (if f (zbst f v) ≤ f (v + 1) then zbst f v else v + 1) ≤ v + 1
    split <;> omega
theorem R_least {side most n : Nat} {q qm : Int32} {Q : Int32 → zT → zT → Prop} (hq : q = nI side) (hs : side = 3 ∨ side = 4) (hqm : qm = nI most) (hm : (side = 3 → most ≤ 40) ∧ (side = 4 → most ≤ 6)) (hV : zV N n)
    (h : ∀ Mi' G' : zT, Q (nI (zbst (fun v => zsum (qL (zNs N side (nI v)) n P00) n) most)) Mi' G') : wp_X4_leastLossOver E N q qm Mi G Q := by
  subst hq hqm
  have hs5 : side < 5 := by omega
  obtain ⟨f, ef⟩ : ∃ f : Nat → Int32, f = fun v => zsum (qL (zNs N side (nI v)) n P00) n := ⟨_, rfl⟩
  rw [← ef] at h
  have hV1 : ∀ v : Nat, v ≤ most → zV (zNs N side (nI v)) n := fun v hv => zV_side hV hs5 (by omega) (fun z => by omega) (fun z => by have := hm.2 z; omega)
  have tot : ∀ (v : Nat) (B : zT), v ≤ most → TEq B (zNs N side (nI v)) → ∀ (Q' : Int32 → zT → Prop) (G0 : zT), (∀ G' : zT, Q' (f v) G') → wp_X4_allLoss E B G0 Q' := by
    intro v B hv hB Q' G0 hq
    have hVB := TEq_zV hB (hV1 v hv)
    refine R_all hVB (fun G' => ?_)
    rw [tot_cong hB hV.2.1]
    have := hq G'
    rw [ef] at this
    exact this
  -- behind v = 0
  have key : ∀ (k v : Nat) (B G0 : zT), v + k = most + 1 → 1 ≤ v → (∃ u : Nat, TEq B (zNs N side (nI u))) → wpl_X4_leastLossOver_19 E N (nI side) (nI most) Q (k + 1) (nI (zbst f (v - 1))) (f (zbst f (v - 1))) (nI v) B G0 := by
    intro k
    induction k with
    | zero =>
      intro v B G0 hk h1 hB
      have : v = most + 1 := by omega
      subst this
      exact zt ((nI_ltI (by omega) (by omega)).mpr (by omega)) (h _ _)
    | succ k ih =>
      intro v B G0 hk h1 ⟨u, hB⟩
      obtain ⟨w, ew⟩ : ∃ w : Nat, v = w + 1 := ⟨v - 1, by omega⟩
      subst ew
      have hB2 : TEq (zNs B side (nI (w + 1))) (zNs N side (nI (w + 1))) := TEq_two hB
      have ih' := fun G' => ih (w + 1 + 1) (zNs B side (nI (w + 1))) G' (by omega) (by omega) ⟨w + 1, hB2⟩
      have e1 : w + 1 - 1 = w := rfl
      have e2 : w + 1 + 1 - 1 = w + 1 := rfl
      rw [e1]
      rw [e2] at ih'
      have hz : zbst f (w + 1) = if f (zbst f w) ≤ f (w + 1) then zbst f w else w + 1 := rfl
      refine zf (fun z => by have := (nI_ltI (by omega) (by omega)).mp z; omega) (R_chg rfl hs5 (tot (w + 1) _ (by omega) hB2 _ _ (fun G' => zf (fun z => ?_) ⟨fun c => ?_, fun c => ?_⟩)))
      · have := (nI_eq (b := 0) (by omega) (by omega)).mp z
        omega
      · unfold wpb_X4_leastLossOver_65
        rintro _ rfl
        rw [show nI (w + 1) + (1 : Int32) = nI (w + 1 + 1) from nI_1 _]
        have := ih' G'
        rw [hz, if_pos c] at this
        exact this
      · unfold wpb_X4_leastLossOver_58 wpb_X4_leastLossOver_65
        rintro _ rfl
        rw [show nI (w + 1) + (1 : Int32) = nI (w + 1 + 1) from nI_1 _]
        have := ih' G'
        rw [hz, if_neg c] at this
        exact this
  refine R_bec (fun B hB => ⟨most + 2, ?_⟩)
  have hB2 : TEq (zNs B side (nI 0)) (zNs N side (nI 0)) := TEq_side hB
  refine zf (fun z => by have := (nI_ltI (b := 0) (by omega) (by omega)).mp z; omega) (R_chg rfl hs5 (tot 0 _ (by omega) hB2 _ _ (fun G' => zt rfl ?_)))
  unfold wpb_X4_leastLossOver_58 wpb_X4_leastLossOver_65
  rintro _ rfl
  exact key most 1 _ G' (by omega) (by omega) ⟨0, hB2⟩
theorem ok_bestFar (hI : Inv E N F IT IF L M) : wp_X4_bestFar E N Mi G (fun r _ _ => wp_X5_bestFar M (fun r' M' => r' = r ∧ Inv E N F IT IF L M')) := by
  obtain ⟨R, ⟨n, hV⟩, -⟩ := id hI
  obtain ⟨d, hd, d0, d0', d1, d2, d3, d4⟩ := V_side hV
  unfold wp_X4_bestFar
  refine R_least (side := 3) (most := 40) rfl (Or.inl rfl) rfl ⟨fun _ => by decide, fun z => by cases z⟩ hV (fun Mi' G' => ?_)
  obtain ⟨f, ef⟩ : ∃ f : Nat → Int32, f = fun v => zsum (qL (zNs N 3 (nI v)) n P00) n := ⟨_, rfl⟩
  rw [← ef]
  have v4 : vp_in (4 : Int32) 5 := vp_in_nI (n := 4) (by decide) (by decide)
  have s4 : ∀ S : zT, mKeep M S → S 8 ((4 : Int32)).toNatClampNeg = nI (d 4) := by
    intro S hS
    rw [← hd 4 (by decide), hS 8 (Or.inl (by decide))]
    exact R.1 4 (by decide)
  have fe : ∀ v : Nat, zsum (qL (zCF N (nI (d 4)) (nI v)) n P00) n = f v := by
    intro v
    rw [ef, ← hd 4 (by decide)]
    exact (tot_cong (CF_cus (n := n) TEq.rf) hV.2.1).symm
  have key : ∀ (k v : Nat) (S : zT), v + k = 41 → 1 ≤ v → mKeep M S → wpl_X5_bestFar_4 (fun r' M' => r' = nI (zbst f 40) ∧ Inv E N F IT IF L M') (k + 1) (nI (zbst f (v - 1))) (nI v) S := by
    intro k
    induction k with
    | zero =>
      intro v S hk h1 hS
      have : v = 41 := by omega
      subst this
      exact zt (by decide) ⟨rfl, Inv_mKeep hI hS⟩
    | succ k ih =>
      intro v S hk h1 hS
      obtain ⟨w, ew⟩ : ∃ w : Nat, v = w + 1 := ⟨v - 1, by omega⟩
      subst ew
      have e1 : w + 1 - 1 = w := rfl
      rw [e1]
      have hb := zbst_le f w
      have hz : zbst f (w + 1) = if f (zbst f w) ≤ f (w + 1) then zbst f w else w + 1 := rfl
      refine zf (fun z => by have := (nI_ltI (a := 40) (by omega) (by omega)).mp z; omega) ⟨v4, ?_⟩
      rw [s4 S hS]
      refine M_lossBy (TR_keep R hS) hV d4 (by omega) (fun S1 h1 _ => ⟨v4, ?_⟩)
      have hS1 : mKeep M S1 := fun j hj => (h1 j hj).trans (hS j hj)
      rw [s4 S1 hS1]
      refine M_lossBy (TR_keep R hS1) hV d4 (by omega) (fun S2 h2 _ => ?_)
      have hS2 : mKeep M S2 := fun j hj => (h2 j hj).trans (hS1 j hj)
      rw [fe, fe]
      have ih' := ih (w + 1 + 1) S2 (by omega) (by omega) hS2
      have e2 : w + 1 + 1 - 1 = w + 1 := rfl
      rw [e2, hz] at ih'
      refine ⟨fun c => ?_, fun c => ?_⟩
      · unfold wpb_X5_bestFar_40
        rintro _ rfl
        rw [show nI (w + 1) + (1 : Int32) = nI (w + 1 + 1) from nI_1 _]
        rw [if_pos c] at ih'
        exact ih'
      · unfold wpb_X5_bestFar_40
        rintro _ rfl
        rw [show nI (w + 1) + (1 : Int32) = nI (w + 1 + 1) from nI_1 _]
        rw [if_neg c] at ih'
        exact ih'
  exact ⟨41, key 40 1 M (by omega) (by omega) (fun j _ => rfl)⟩
theorem ok_bestCustom (hI : Inv E N F IT IF L M) : wp_X4_bestCustom E N Mi G (fun r _ _ => wp_X5_bestCustom M (fun r' M' => r' = r ∧ Inv E N F IT IF L M')) := by
  obtain ⟨R, ⟨n, hV⟩, -⟩ := id hI
  obtain ⟨d, hd, d0, d0', d1, d2, d3, d4⟩ := V_side hV
  unfold wp_X4_bestCustom
  refine R_least (side := 4) (most := 6) rfl (Or.inr rfl) rfl ⟨fun z => (by cases z), fun _ => by decide⟩ hV (fun Mi' G' => ?_)
  obtain ⟨f, ef⟩ : ∃ f : Nat → Int32, f = fun v => zsum (qL (zNs N 4 (nI v)) n P00) n := ⟨_, rfl⟩
  rw [← ef]
  have v3 : vp_in (3 : Int32) 5 := vp_in_nI (n := 3) (by decide) (by decide)
  have s3 : ∀ S : zT, mKeep M S → S 8 ((3 : Int32)).toNatClampNeg = nI (d 3) := by
    intro S hS
    rw [← hd 3 (by decide), hS 8 (Or.inl (by decide))]
    exact R.1 3 (by decide)
  have fe : ∀ v : Nat, zsum (qL (zCF N (nI v) (nI (d 3))) n P00) n = f v := by
    intro v
    rw [ef, ← hd 3 (by decide)]
    exact (tot_cong (CF_far (n := n) TEq.rf) hV.2.1).symm
  have key : ∀ (k v : Nat) (S : zT), v + k = 7 → 1 ≤ v → mKeep M S → wpl_X5_bestCustom_4 (fun r' M' => r' = nI (zbst f 6) ∧ Inv E N F IT IF L M') (k + 1) (nI (zbst f (v - 1))) (nI v) S := by
    intro k
    induction k with
    | zero =>
      intro v S hk h1 hS
      have : v = 7 := by omega
      subst this
      exact zt (by decide) ⟨rfl, Inv_mKeep hI hS⟩
    | succ k ih =>
      intro v S hk h1 hS
      obtain ⟨w, ew⟩ : ∃ w : Nat, v = w + 1 := ⟨v - 1, by omega⟩
      subst ew
      have e1 : w + 1 - 1 = w := rfl
      rw [e1]
      have hb := zbst_le f w
      have hz : zbst f (w + 1) = if f (zbst f w) ≤ f (w + 1) then zbst f w else w + 1 := rfl
      refine zf (fun z => by have := (nI_leI (a := 7) (by omega) (by omega)).mp z; omega) ⟨v3, ?_⟩
      rw [s3 S hS]
      refine M_lossBy (TR_keep R hS) hV (by omega) d3 (fun S1 h1 _ => ⟨v3, ?_⟩)
      have hS1 : mKeep M S1 := fun j hj => (h1 j hj).trans (hS j hj)
      rw [s3 S1 hS1]
      refine M_lossBy (TR_keep R hS1) hV (by omega) d3 (fun S2 h2 _ => ?_)
      have hS2 : mKeep M S2 := fun j hj => (h2 j hj).trans (hS1 j hj)
      rw [fe, fe]
      have ih' := ih (w + 1 + 1) S2 (by omega) (by omega) hS2
      have e2 : w + 1 + 1 - 1 = w + 1 := rfl
      rw [e2, hz] at ih'
      refine ⟨fun c => ?_, fun c => ?_⟩
      · unfold wpb_X5_bestCustom_40
        rintro _ rfl
        rw [show nI (w + 1) + (1 : Int32) = nI (w + 1 + 1) from nI_1 _]
        rw [if_pos c] at ih'
        exact ih'
      · unfold wpb_X5_bestCustom_40
        rintro _ rfl
        rw [show nI (w + 1) + (1 : Int32) = nI (w + 1 + 1) from nI_1 _]
        rw [if_neg c] at ih'
        exact ih'
  exact ⟨7, key 6 1 M (by omega) (by omega) (fun j _ => rfl)⟩
end OK6

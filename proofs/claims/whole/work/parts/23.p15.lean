section OK7
variable {E N F IT IF L M G Mi : zT}
/-- best SHUTS among 1 .. v -/
def zbs1 (f : Nat → Int32) : Nat → Nat
  | 0 => 1
  | v + 1 => if f (zbs1 f v) ≤ f (v + 2) then zbs1 f v else v + 2
theorem zbs1_le (f : Nat → Int32) : ∀ v : Nat, 1 ≤ zbs1 f v ∧ zbs1 f v ≤ v + 1
  | 0 => ⟨Nat.le_refl _, Nat.le_refl _⟩
  | v + 1 => by
    have := zbs1_le f v
    show 1 ≤ (if f (zbs1 f v) ≤ f (v + 2) then zbs1 f v else v + 2) ∧ (if f (zbs1 f v) ≤ f (v + 2) then zbs1 f v else v + 2) ≤ v + 1 + 1
    split <;> omega
theorem open_cong {A B : zT} {n : Nat} (h : TEq A B) (h8 : n ≤ 8) : ∀ i : Nat, oV A n P00 i = oV B n P00 i ∧ oT A n P00 i = oT B n P00 i
  | 0 => ⟨rfl, rfl⟩
  | i + 1 => by
    obtain ⟨e1, e2⟩ := open_cong h h8 i
    obtain ⟨a, b, -⟩ := zq_cong (P0 := P00) h h8 i
    have eT : oT A n P00 (i + 1) = oT B n P00 (i + 1) := by
      show qC A n P00 i + qO A n P00 i + qS A n P00 i + A 0 0 = qC B n P00 i + qO B n P00 i + qS B n P00 i + B 0 0
      unfold qC qO
      rw [a, b, h.1 0 (by decide)]
    refine ⟨?_, eT⟩
    show oV A n P00 i + (oT A n P00 (i + 1) - (if qC A n P00 i < oT A n P00 i then oT A n P00 i else qC A n P00 i)) = oV B n P00 i + (oT B n P00 (i + 1) - (if qC B n P00 i < oT B n P00 i then oT B n P00 i else qC B n P00 i))
    unfold qC
    rw [eT, e1, e2, a]
/-- LOSS and COALS together -/
def zCost (N : zT) (n : Nat) (v : Nat) : Int32 := zsum (qL (zNs N 0 (nI v)) n P00) n + oV (zNs N 0 (nI v)) n P00 n * N 0 2
theorem ok_bestShuts (hI : Inv E N F IT IF L M) : wp_X4_bestShuts E N Mi G (fun r _ _ => wp_X5_bestShuts M (fun r' M' => r' = r ∧ Inv E N F IT IF L M')) := by
  obtain ⟨R, ⟨n, hV⟩, -⟩ := id hI
  have h8 := hV.2.1
  obtain ⟨d, hd, d0, d0', d1, d2, d3, d4⟩ := V_side hV
  obtain ⟨f, ef⟩ : ∃ f : Nat → Int32, f = zCost N n := ⟨_, rfl⟩
  have hVs : ∀ v : Nat, 1 ≤ v → v ≤ 9 → zV (zNs N 0 (nI v)) n := fun v h1 h2 => zV_side hV (by decide) (Or.inl (by omega)) (fun _ => h1) (fun z => (by cases z))
  have v0 : vp_in (0 : Int32) 5 := vp_in_nI (n := 0) (by decide) (by decide)
  have v2 : vp_in (2 : Int32) 5 := vp_in_nI (n := 2) (by decide) (by decide)
  have c0 : ((0 : Int32)).toNatClampNeg = 0 := rfl
  have c2 : ((2 : Int32)).toNatClampNeg = 2 := rfl
  have cz : zcn P00 n = n := zcn_f n
  -- the reference
  have mStep : ∀ (v : Nat) (S : zT), 1 ≤ v → v ≤ 9 → (∀ j : Nat, (j < 26 ∨ 37 < j) → j ≠ 8 → S j = M j) → (∃ x : Int32, S 8 = upd (M 8) 0 x) → ∀ Q' : Int32 → zT → Prop, (∀ S2 : zT, (∀ j : Nat, (j < 26 ∨ 37 < j) → j ≠ 8 → S2 j = M j) → S2 8 = upd (M 8) 0 (nI v) → Q' (f v) S2) →
      ∀ S1 : zT, S1 = va_up S 8 (upd (S 8) 0 (nI v)) → wp_X5_goesAll S1 (fun S_30 => wp_X5_lossOfAll S_30 (fun r34 => wp_X5_openSeconds S_30 (fun r38 => vp_in (2 : Int32) 5 ∧ ∀ y49 : Int32, y49 = (r34 + (r38 * (S_30 8 2))) → Q' y49 S_30))) := by
    intro v S h1 h9 hS ⟨x, hx⟩ Q' hq S1 e1
    have e8 : S1 8 = upd (M 8) 0 (nI v) := by
      rw [e1]
      show upd (S 8) 0 (nI v) = _
      rw [hx]
      funext p
      by_cases z : p = 0
      · subst z; rw [pk_us, pk_us]
      · rw [pk_un z, pk_un z, pk_un z]
    have eo : ∀ j : Nat, (j < 26 ∨ 37 < j) → j ≠ 8 → S1 j = M j := by
      intro j hj h8'
      rw [e1]
      show (if j = 8 then _ else S j) = _
      rw [if_neg h8']
      exact hS j hj h8'
    have R1 : TR (zNs N 0 (nI v)) S1 := by
      have hr := TR_side (k := 0) (v := nI v) R
      refine ⟨fun k hk => ?_, fun w hw => ?_, ?_⟩
      · rw [e8]; exact hr.1 k hk
      · rw [eo 1 (by decide) (by decide), eo 2 (by decide) (by decide), eo 3 (by decide) (by decide), eo 4 (by decide) (by decide), eo 5 (by decide) (by decide), eo 6 (by decide) (by decide), eo 7 (by decide) (by decide)]
        exact hr.2.1 w hw
      · rw [eo 13 (by decide) (by decide)]; exact hr.2.2
    refine M_all R1 (hVs v h1 h9) (fun S2 hS2 => ?_)
    have R2 := TR_keep R1 hS2.1
    refine M_tot R2 (hVs v h1 h9) hS2 (M_open (hVs v h1 h9) hS2 ⟨v2, ?_⟩)
    rintro _ rfl
    have e82 : S2 8 2 = N 0 2 := R2.1 2 (by decide)
    rw [cz, e82]
    have q := hq S2 (fun j hj h8' => (hS2.1 j hj).trans (eo j hj h8')) ((hS2.1 8 (by decide)).trans e8)
    rw [ef] at q
    exact q
  have mKey : ∀ (k v : Nat) (S : zT), v + k = 8 → (∀ j : Nat, (j < 26 ∨ 37 < j) → j ≠ 8 → S j = M j) → (∃ x : Int32, S 8 = upd (M 8) 0 x) → wpl_X5_bestShuts_14 (fun r' M' => r' = nI (zbs1 f 8) ∧ Inv E N F IT IF L M') (k + 1) (M 8 0) (nI (zbs1 f v)) (f (zbs1 f v)) (nI (v + 2)) S := by
    intro k
    induction k with
    | zero =>
      intro v S hk hS ⟨x, hx⟩
      have : v = 8 := by omega
      subst this
      refine zt (by decide) ?_
      unfold wpb_X5_bestShuts_76
      refine ⟨v0, ?_⟩
      rintro _ rfl
      refine ⟨rfl, Inv_keep hI (fun j h1 _ _ _ => ?_)⟩
      by_cases z : j = 8
      · subst z
        show upd (S 8) ((0 : Int32)).toNatClampNeg (M 8 0) = M 8
        rw [c0, hx]
        funext p
        by_cases z : p = 0
        · subst z; rw [pk_us]
        · rw [pk_un z, pk_un z]
      · show (if j = 8 then _ else S j) = _
        rw [if_neg z]
        exact hS j (by omega) z
    | succ k ih =>
      intro v S hk hS hx
      have hb := zbs1_le f v
      have hz : zbs1 f (v + 1) = if f (zbs1 f v) ≤ f (v + 2) then zbs1 f v else v + 2 := rfl
      refine zf (fun z => by have := (nI_leI (a := 10) (by omega) (by omega)).mp z; omega) ⟨v0, ?_⟩
      rw [c0, c2]
      intro S1 e1
      refine mStep (v + 2) S (by omega) (by omega) hS hx (fun y S2 => (nI (zbs1 f v) ≤ 0 → wpb_X5_bestShuts_64 (fun r' M' => r' = nI (zbs1 f 8) ∧ Inv E N F IT IF L M') (fun x1 x2 x3 x4 S => wpl_X5_bestShuts_14 (fun r' M' => r' = nI (zbs1 f 8) ∧ Inv E N F IT IF L M') (k + 1) x1 x2 x3 x4 S) (M 8 0) (nI (v + 2)) y S2) ∧ (¬ nI (zbs1 f v) ≤ 0 → (y < f (zbs1 f v) → wpb_X5_bestShuts_64 (fun r' M' => r' = nI (zbs1 f 8) ∧ Inv E N F IT IF L M') (fun x1 x2 x3 x4 S => wpl_X5_bestShuts_14 (fun r' M' => r' = nI (zbs1 f 8) ∧ Inv E N F IT IF L M') (k + 1) x1 x2 x3 x4 S) (M 8 0) (nI (v + 2)) y S2) ∧ (¬ y < f (zbs1 f v) → wpb_X5_bestShuts_70 (fun r' M' => r' = nI (zbs1 f 8) ∧ Inv E N F IT IF L M') (fun x1 x2 x3 x4 S => wpl_X5_bestShuts_14 (fun r' M' => r' = nI (zbs1 f 8) ∧ Inv E N F IT IF L M') (k + 1) x1 x2 x3 x4 S) (M 8 0) (nI (zbs1 f v)) (f (zbs1 f v)) (nI (v + 2)) S2))) (fun S2 h2 h28 => ?_) S1 e1
      have ih' := ih (v + 1) S2 (by omega) h2 ⟨_, h28⟩
      refine zf (fun z => by have := (nI_leI (b := 0) (by omega) (by omega)).mp z; omega) ⟨fun c => ?_, fun c => ?_⟩
      · unfold wpb_X5_bestShuts_64 wpb_X5_bestShuts_70
        rintro _ rfl
        rw [show nI (v + 2) + (1 : Int32) = nI (v + 1 + 2) from nI_1 _]
        rw [hz, if_neg (znle.mpr c)] at ih'
        exact ih'
      · unfold wpb_X5_bestShuts_70
        rintro _ rfl
        rw [show nI (v + 2) + (1 : Int32) = nI (v + 1 + 2) from nI_1 _]
        rw [hz, if_pos (znl.mp c)] at ih'
        exact ih'
  have mAll : wp_X5_bestShuts M (fun r' M' => r' = nI (zbs1 f 8) ∧ Inv E N F IT IF L M') := by
    refine ⟨v0, ?_⟩
    rintro _ rfl
    refine ⟨10, ?_⟩
    refine zf (by decide) ⟨v0, ?_⟩
    rw [c0, c2]
    intro S1 e1
    have hx0 : ∃ x : Int32, M 8 = upd (M 8) 0 x := by
      refine ⟨M 8 0, ?_⟩
      funext p
      by_cases z : p = 0
      · subst z; rw [pk_us]
      · rw [pk_un z]
    refine mStep 1 M (by omega) (by omega) (fun j _ _ => rfl) hx0 (fun y S2 => ((0 : Int32) ≤ 0 → wpb_X5_bestShuts_64 (fun r' M' => r' = nI (zbs1 f 8) ∧ Inv E N F IT IF L M') (fun x1 x2 x3 x4 S => wpl_X5_bestShuts_14 (fun r' M' => r' = nI (zbs1 f 8) ∧ Inv E N F IT IF L M') 9 x1 x2 x3 x4 S) (M 8 0) (1 : Int32) y S2) ∧ (¬ (0 : Int32) ≤ 0 → (y < 0 → wpb_X5_bestShuts_64 (fun r' M' => r' = nI (zbs1 f 8) ∧ Inv E N F IT IF L M') (fun x1 x2 x3 x4 S => wpl_X5_bestShuts_14 (fun r' M' => r' = nI (zbs1 f 8) ∧ Inv E N F IT IF L M') 9 x1 x2 x3 x4 S) (M 8 0) (1 : Int32) y S2) ∧ (¬ y < 0 → wpb_X5_bestShuts_70 (fun r' M' => r' = nI (zbs1 f 8) ∧ Inv E N F IT IF L M') (fun x1 x2 x3 x4 S => wpl_X5_bestShuts_14 (fun r' M' => r' = nI (zbs1 f 8) ∧ Inv E N F IT IF L M') 9 x1 x2 x3 x4 S) (M 8 0) (0 : Int32) (0 : Int32) (1 : Int32) S2))) (fun S2 h2 h28 => ?_) S1 e1
    refine zt (by decide) ?_
    unfold wpb_X5_bestShuts_64 wpb_X5_bestShuts_70
    rintro _ rfl
    exact mKey 8 0 S2 (by omega) h2 ⟨_, h28⟩
  -- the class
  have cStep : ∀ (v : Nat) (B G0 : zT), 1 ≤ v → v ≤ 9 → TEq B (zNs N 0 (nI v)) → ∀ Q' : Int32 → zT → Prop, (∀ G' : zT, Q' (f v) G') → wp_X4_allLoss E B G0 (fun r38 Sg_38 => wp_X1_openSeconds Sg_38 (nI v) (fun r46 => wp_X3_door B (2 : Int32) (fun r54 => ∀ y59 : Int32, y59 = (r38 + (r46 * r54)) → Q' y59 Sg_38))) := by
    intro v B G0 h1 h9 hB Q' hq
    have hVB := TEq_zV hB (hVs v h1 h9)
    refine R_run hVB.1 h8 (fun G' hG => R_loss hG.1 h8 ?_)
    have e0 : nI v = B 0 0 := by
      rw [hB.1 0 (by decide)]
      show nI v = upd (N 0) 0 (nI v) 0
      exact pk_us.symm
    rw [e0]
    refine R_open h8 hG (R_door (k := 2) rfl (by decide) ?_)
    rintro _ rfl
    have eb : B 0 2 = N 0 2 := by
      rw [hB.1 2 (by decide)]
      show upd (N 0) 0 (nI v) 2 = N 0 2
      exact pk_un (by decide)
    rw [tot_loss hG, tot_cong hB h8, (open_cong hB h8 n).1, eb]
    have q := hq G'
    rw [ef] at q
    exact q
  have cKey : ∀ (k v : Nat) (B G0 : zT), v + k = 8 → (∃ u : Nat, TEq B (zNs N 0 (nI u))) → wpl_X4_bestShuts_17 E N (fun r _ _ => wp_X5_bestShuts M (fun r' M' => r' = r ∧ Inv E N F IT IF L M')) (k + 1) (nI (zbs1 f v)) (f (zbs1 f v)) (nI (v + 2)) B G0 := by
    intro k
    induction k with
    | zero =>
      intro v B G0 hk hB
      have : v = 8 := by omega
      subst this
      exact zt (by decide) mAll
    | succ k ih =>
      intro v B G0 hk ⟨u, hB⟩
      have hB2 : TEq (zNs B 0 (nI (v + 2))) (zNs N 0 (nI (v + 2))) := TEq_two hB
      have ih' := fun G' => ih (v + 1) (zNs B 0 (nI (v + 2))) G' (by omega) ⟨_, hB2⟩
      have hz : zbs1 f (v + 1) = if f (zbs1 f v) ≤ f (v + 2) then zbs1 f v else v + 2 := rfl
      refine zf (fun z => by have := (nI_ltI (a := 9) (by omega) (by omega)).mp z; omega) (R_chg (k := 0) rfl (by decide) (cStep (v + 2) _ G0 (by omega) (by omega) hB2 (fun y G' => (nI (v + 2) = 1 → wpb_X4_bestShuts_72 E N (fun r _ _ => wp_X5_bestShuts M (fun r' M' => r' = r ∧ Inv E N F IT IF L M')) (fun x1 x2 x3 Sm Sg => wpl_X4_bestShuts_17 E N (fun r _ _ => wp_X5_bestShuts M (fun r' M' => r' = r ∧ Inv E N F IT IF L M')) (k + 1) x1 x2 x3 Sm Sg) (nI (v + 2)) y (zNs B 0 (nI (v + 2))) G') ∧ (¬ nI (v + 2) = 1 → (f (zbs1 f v) ≤ y → wpb_X4_bestShuts_77 E N (fun r _ _ => wp_X5_bestShuts M (fun r' M' => r' = r ∧ Inv E N F IT IF L M')) (fun x1 x2 x3 Sm Sg => wpl_X4_bestShuts_17 E N (fun r _ _ => wp_X5_bestShuts M (fun r' M' => r' = r ∧ Inv E N F IT IF L M')) (k + 1) x1 x2 x3 Sm Sg) (nI (zbs1 f v)) (f (zbs1 f v)) (nI (v + 2)) (zNs B 0 (nI (v + 2))) G') ∧ (¬ f (zbs1 f v) ≤ y → wpb_X4_bestShuts_72 E N (fun r _ _ => wp_X5_bestShuts M (fun r' M' => r' = r ∧ Inv E N F IT IF L M')) (fun x1 x2 x3 Sm Sg => wpl_X4_bestShuts_17 E N (fun r _ _ => wp_X5_bestShuts M (fun r' M' => r' = r ∧ Inv E N F IT IF L M')) (k + 1) x1 x2 x3 Sm Sg) (nI (v + 2)) y (zNs B 0 (nI (v + 2))) G'))) (fun G' => ?_)))
      refine zf (fun z => by have := (nI_eq (b := 1) (by omega) (by omega)).mp z; omega) ⟨fun c => ?_, fun c => ?_⟩
      · unfold wpb_X4_bestShuts_77
        rintro _ rfl
        rw [show nI (v + 2) + (1 : Int32) = nI (v + 1 + 2) from nI_1 _]
        have := ih' G'
        rw [hz, if_pos c] at this
        exact this
      · unfold wpb_X4_bestShuts_72 wpb_X4_bestShuts_77
        rintro _ rfl
        rw [show nI (v + 2) + (1 : Int32) = nI (v + 1 + 2) from nI_1 _]
        have := ih' G'
        rw [hz, if_neg c] at this
        exact this
  refine R_bec (fun B hB => ⟨10, ?_⟩)
  have hB1 : TEq (zNs B 0 1) (zNs N 0 (nI 1)) := TEq_side hB
  refine zf (by decide) (R_chg (k := 0) rfl (by decide) (cStep 1 _ G (by omega) (by omega) hB1 (fun y G' => ((1 : Int32) = 1 → wpb_X4_bestShuts_72 E N (fun r _ _ => wp_X5_bestShuts M (fun r' M' => r' = r ∧ Inv E N F IT IF L M')) (fun x1 x2 x3 Sm Sg => wpl_X4_bestShuts_17 E N (fun r _ _ => wp_X5_bestShuts M (fun r' M' => r' = r ∧ Inv E N F IT IF L M')) 9 x1 x2 x3 Sm Sg) 1 y (zNs B 0 1) G') ∧ (¬ (1 : Int32) = 1 → (0 ≤ y → wpb_X4_bestShuts_77 E N (fun r _ _ => wp_X5_bestShuts M (fun r' M' => r' = r ∧ Inv E N F IT IF L M')) (fun x1 x2 x3 Sm Sg => wpl_X4_bestShuts_17 E N (fun r _ _ => wp_X5_bestShuts M (fun r' M' => r' = r ∧ Inv E N F IT IF L M')) 9 x1 x2 x3 Sm Sg) 1 0 1 (zNs B 0 1) G') ∧ (¬ 0 ≤ y → wpb_X4_bestShuts_72 E N (fun r _ _ => wp_X5_bestShuts M (fun r' M' => r' = r ∧ Inv E N F IT IF L M')) (fun x1 x2 x3 Sm Sg => wpl_X4_bestShuts_17 E N (fun r _ _ => wp_X5_bestShuts M (fun r' M' => r' = r ∧ Inv E N F IT IF L M')) 9 x1 x2 x3 Sm Sg) 1 y (zNs B 0 1) G'))) (fun G' => ?_)))
  refine zt rfl ?_
  unfold wpb_X4_bestShuts_72 wpb_X4_bestShuts_77
  rintro _ rfl
  exact cKey 8 0 _ G' (by omega) ⟨1, hB1⟩
end OK7

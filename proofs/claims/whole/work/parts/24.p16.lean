section OK8
variable {E N F IT IF L M G Mi : zT}
/-- bits of those of whom it holds -/
def zbit (p : Nat → Bool) : Nat → Int32
  | 0 => 0
  | k + 1 => if p k then zbit p k ||| ((1 : Int32) <<< (nI k &&& 31)) else zbit p k
theorem zbit_cong {p q : Nat → Bool} : ∀ {n : Nat}, (∀ w : Nat, w < n → p w = q w) → zbit p n = zbit q n
  | 0, _ => rfl
  | n + 1, h => by
    show (if p n then zbit p n ||| ((1 : Int32) <<< (nI n &&& 31)) else zbit p n) = (if q n then zbit q n ||| ((1 : Int32) <<< (nI n &&& 31)) else zbit q n)
    rw [zbit_cong (fun w hw => h w (Nat.lt_succ_of_lt hw)), h n (Nat.lt_succ_self n)]
theorem zor0 (x : Int32) : x ||| 0 = x := by
  apply Int32.toBitVec_inj.mp
  simp
theorem ok_worse (hI : Inv E N F IT IF L M) : wp_X4_worse N E Mi G (fun r E' _ _ => wp_X5_worse M (fun r' M' => r' = r ∧ Inv E' N F IT IF L M')) := by
  obtain ⟨R, ⟨n, hV⟩, -⟩ := id hI
  have h8 := hV.2.1
  obtain ⟨d, hd, d0, d0', d1, d2, d3, d4⟩ := V_side hV
  have e3 : M 8 ((3 : Int32)).toNatClampNeg = nI (d 3) := by rw [← hd 3 (by decide)]; exact R.1 3 (by decide)
  have v3 : vp_in (3 : Int32) 5 := vp_in_nI (n := 3) (by decide) (by decide)
  have hVc := zV_CF (c := 0) (f := d 3) hV (by decide) d3
  obtain ⟨T2, eT2⟩ : ∃ z : zT, z = zCF N (nI 0) (nI (d 3)) := ⟨_, rfl⟩
  have hV2 : zV T2 n := by rw [eT2]; exact hVc
  -- the loss of w by NEVER
  obtain ⟨nv, env⟩ : ∃ nv : Nat → Int32, ∀ j : Nat, j < n → nv (q1 T2 n P00 j) = qL T2 n P00 j := by
    have ch : ∀ w : Nat, ∃ x : Int32, ∀ j : Nat, j < n → q1 T2 n P00 j = w → x = qL T2 n P00 j := by
      intro w
      by_cases hw : ∃ j : Nat, j < n ∧ q1 T2 n P00 j = w
      · obtain ⟨j, hj, e⟩ := hw
        refine ⟨qL T2 n P00 j, fun j2 hj2 e2 => ?_⟩
        have : j = j2 := by
          rcases Nat.lt_trichotomy j j2 with z | z | z
          · exact absurd (e.trans e2.symm) (q1_ne z (by rw [zcn_f]; exact hj2))
          · exact z
          · exact absurd (e2.trans e.symm) (q1_ne z (by rw [zcn_f]; exact hj))
        rw [this]
      · exact ⟨0, fun j hj e => absurd ⟨j, hj, e⟩ hw⟩
    exact ⟨fun w => (ch w).choose, fun j hj => (ch _).choose_spec j hj rfl⟩
  obtain ⟨nw, enw⟩ : ∃ nw : Nat → Int32, ∀ j : Nat, j < n → nw (q1 N n P00 j) = qL N n P00 j := by
    have ch : ∀ w : Nat, ∃ x : Int32, ∀ j : Nat, j < n → q1 N n P00 j = w → x = qL N n P00 j := by
      intro w
      by_cases hw : ∃ j : Nat, j < n ∧ q1 N n P00 j = w
      · obtain ⟨j, hj, e⟩ := hw
        refine ⟨qL N n P00 j, fun j2 hj2 e2 => ?_⟩
        have : j = j2 := by
          rcases Nat.lt_trichotomy j j2 with z | z | z
          · exact absurd (e.trans e2.symm) (q1_ne z (by rw [zcn_f]; exact hj2))
          · exact z
          · exact absurd (e2.trans e.symm) (q1_ne z (by rw [zcn_f]; exact hj))
        rw [this]
      · exact ⟨0, fun j hj e => absurd ⟨j, hj, e⟩ hw⟩
    exact ⟨fun w => (ch w).choose, fun j hj => (ch _).choose_spec j hj rfl⟩
  obtain ⟨pb, epb⟩ : ∃ pb : Nat → Bool, ∀ w : Nat, pb w = decide (nv w < nw w) := ⟨_, fun _ => rfl⟩
  -- the reference
  have mAllS : ∀ E2 : zT, Inv E2 N F IT IF L M → wp_X5_worse M (fun r' M' => r' = zbit pb n ∧ Inv E2 N F IT IF L M') := by
    intro E2 hI2
    have mB : ∀ (k i : Nat) (S : zT), i + k = n → mKeep M (va_up S 38 (M 38)) → S 13 0 = nI n → (∀ j : Nat, j < n → mRow N n P00 S j) → (∀ w : Nat, w < n → S 38 w = nv w) → wpl_X5_worse_47 (fun r' M' => r' = zbit pb n ∧ Inv E2 N F IT IF L M') (k + 1) (zbit pb i) (nI i) S := by
      intro k
      induction k with
      | zero =>
        intro i S hi hk h13 hr h38
        have : i = n := by omega
        subst this
        refine zt (by rw [h13]; exact Int32.le_refl _) ⟨rfl, Inv_keep hI2 (fun j h1 _ _ _ => ?_)⟩
        have := hk j (by omega)
        unfold va_up at this
        rw [if_neg (by omega)] at this
        exact this
      | succ k ih =>
        intro i S hi hk h13 hr h38
        have hin : i < n := by omega
        have ih' := ih (i + 1) S (by omega) hk h13 hr h38
        obtain ⟨j, hj, ej⟩ := who (T := N) hin
        have hrow := hr j hj
        have h7 : ∀ w : Nat, w < 8 → S 7 w = tv N w 6 := by
          intro w hw
          have : S 7 = M 7 := hk 7 (by decide)
          rw [this]
          exact (R.2.1 w hw).2.2.2.2.2.2
        have hz : zbit pb (i + 1) = if pb i then zbit pb i ||| ((1 : Int32) <<< (nI i &&& 31)) else zbit pb i := rfl
        refine zf (by rw [h13]; exact nI_ge hin (by omega)) (M_lossOf7 h7 (by omega) ⟨zv8 (by omega), ?_⟩)
        have el : tv N i 6 * (S 29 i + S 30 i) + S 32 i = nw i := by
          rw [← ej, hrow.2.2.2.1, hrow.2.2.2.2.1, hrow.2.2.2.2.2.2, enw j hj]
          rfl
        rw [el, zcl (by omega), h38 i hin]
        refine ⟨fun c => ?_, fun c => ?_⟩
        · rintro _ rfl
          rintro _ rfl
          rw [show nI i + (1 : Int32) = nI (i + 1) from nI_1 i, zor0]
          rw [hz, if_neg (by rw [epb]; simpa using znl.mpr c)] at ih'
          exact ih'
        · rintro _ rfl
          rintro _ rfl
          rw [show nI i + (1 : Int32) = nI (i + 1) from nI_1 i]
          rw [hz, if_pos (by rw [epb]; simpa using znle.mp c)] at ih'
          exact ih'
    have keep38 : ∀ S : zT, mKeep M (va_up S 38 (M 38)) → TR N S := by
      intro S hk
      have := TR_keep R hk
      exact this
    have mA : ∀ (k i : Nat) (S : zT), i + k = n → mKeep M (va_up S 38 (M 38)) → S 13 0 = nI n → (∀ j : Nat, j < n → mRow T2 n P00 S j) → (∀ w : Nat, w < i → S 38 w = nv w) → wpl_X5_worse_14 (fun r' M' => r' = zbit pb n ∧ Inv E2 N F IT IF L M') (k + 1) (nI i) S := by
      intro k
      induction k with
      | zero =>
        intro i S hi hk h13 hr h38
        have : i = n := by omega
        subst this
        refine zt (by rw [h13]; exact Int32.le_refl _) ?_
        unfold wpb_X5_worse_39
        refine M_all (keep38 S hk) hV (fun S2 hS2 => ⟨i + 1, ?_⟩)
        obtain ⟨k2, -, r2, -⟩ := hS2
        refine mB i 0 S2 (by omega) (fun j hj => ?_) ?_ (fun j hj => r2 j (by rw [zcn_f]; exact hj)) (fun w hw => ?_)
        · have a1 := k2 j hj
          have a2 := hk j hj
          unfold va_up at a2 ⊢
          by_cases z : j = 38
          · rw [if_pos z, z]
          · rw [if_neg z] at a2 ⊢
            rw [a1, a2]
        · rw [k2 13 (by decide)]; exact h13
        · rw [k2 38 (by decide)]; exact h38 w hw
      | succ k ih =>
        intro i S hi hk h13 hr h38
        have hin : i < n := by omega
        obtain ⟨j, hj, ej⟩ := who (T := T2) hin
        have hrow := hr j hj
        have h7 : ∀ w : Nat, w < 8 → S 7 w = tv T2 w 6 := by
          intro w hw
          have : S 7 = M 7 := hk 7 (by decide)
          rw [this, eT2]
          exact (R.2.1 w hw).2.2.2.2.2.2
        refine zf (by rw [h13]; exact nI_ge hin (by omega)) (M_lossOf7 h7 (by omega) ⟨zv8 (by omega), ?_⟩)
        have el : tv T2 i 6 * (S 29 i + S 30 i) + S 32 i = nv i := by
          rw [← ej, hrow.2.2.2.1, hrow.2.2.2.2.1, hrow.2.2.2.2.2.2, env j hj]
          rfl
        rw [el, zcl (by omega)]
        rintro _ rfl
        rintro _ rfl
        rw [show nI i + (1 : Int32) = nI (i + 1) from nI_1 i]
        refine ih (i + 1) _ (by omega) (fun j hj => ?_) h13 hr (fun w hw => ?_)
        · have a2 := hk j hj
          unfold va_up at a2 ⊢
          by_cases z : j = 38
          · rw [if_pos z, z]
          · rw [if_neg z] at a2
            rw [if_neg z, if_neg z, a2]
        · show upd (S 38) i (nv i) w = nv w
          by_cases z : w = i
          · subst z; rw [pk_us]
          · rw [pk_un z]; exact h38 w (by omega)
    refine ⟨v3, ?_⟩
    rw [e3]
    refine M_lossBy (c := 0) R hV (by decide) d3 (fun S hS hr => ⟨n + 1, ?_⟩)
    refine mA n 0 S (by omega) (fun j hj => ?_) ?_ (by rw [eT2]; exact hr) (fun w hw => absurd hw (Nat.not_lt_zero w))
    · unfold va_up
      by_cases z : j = 38
      · rw [if_pos z, z]
      · rw [if_neg z]; exact hS j hj
    · rw [hS 13 (by decide), R.2.2]; exact hV.1
  -- the class
  unfold wp_X4_worse wp_X4_runByNever
  refine R_bec (fun B hB => R_chg (k := 4) rfl (by decide) ?_)
  have hT : TEq (zNs B 4 0) T2 := by rw [eT2, ← hd 3 (by decide)]; exact CF_far (n := n) hB
  have hVB := TEq_zV hT hV2
  refine R_run hVB.1 h8 (fun G1 hG1 => ⟨n + 1, ?_⟩)
  have g7 : ∀ w : Nat, w < n → G1 7 w = nv w := by
    intro w hw
    obtain ⟨j, hj, ej⟩ := who (T := T2) hw
    have hc := zq_cong (P0 := P00) hT h8 j
    have e1 : q1 (zNs B 4 0) n P00 j = w := by rw [← ej]; unfold q1; rw [hc.1]
    have := (hG1.2 j hj).2.2.2.2.2.2.2
    rw [e1, hc.2.2] at this
    rw [this, ← ej, env j hj]
  have cB : ∀ (k i : Nat) (S Mj G2 : zT), i + k = n → S 5 = E 5 → S 9 = E 9 → S 10 = E 10 → S 11 = E 11 → (∀ w : Nat, w < n → S 8 w = nv w) → (∀ w : Nat, w < n → G2 7 w = nw w) → wpl_X4_worse_57 N (fun r E' _ _ => wp_X5_worse M (fun r' M' => r' = r ∧ Inv E' N F IT IF L M')) (k + 1) (zbit pb i) (nI i) S Mj G2 := by
    intro k
    induction k with
    | zero =>
      intro i S Mj G2 hi h5 h9 h10 h11 hs hg
      have : i = n := by omega
      subst this
      refine zt (by rw [hV.1]; exact Int32.le_refl _) ?_
      have conv : ∀ M' : zT, Inv E N F IT IF L M' → Inv S N F IT IF L M' := fun M' h => Inv_E h h5 h9 h10 h11
      have mAll' : wp_X5_worse M (fun r' M' => r' = zbit pb i ∧ Inv S N F IT IF L M') := by
        have hI2 : Inv S N F IT IF L M := conv M hI
        exact mAllS S hI2
      exact mAll'
    | succ k ih =>
      intro i S Mj G2 hi h5 h9 h10 h11 hs hg
      have hin : i < n := by omega
      have ih' := ih (i + 1) S Mj G2 (by omega) h5 h9 h10 h11 hs hg
      have hz : zbit pb (i + 1) = if pb i then zbit pb i ||| ((1 : Int32) <<< (nI i &&& 31)) else zbit pb i := rfl
      refine zf (by rw [hV.1]; exact nI_ge hin (by omega)) (R_at rfl (show i < 8 by omega) (by decide) (R_at rfl (show i < 8 by omega) (by decide) ?_))
      rw [hs i hin, hg i hin]
      refine ⟨fun c => ?_, fun c => ?_⟩
      · unfold wpb_X4_worse_96
        rintro _ rfl
        rw [show nI i + (1 : Int32) = nI (i + 1) from nI_1 i]
        rw [hz, if_neg (by rw [epb]; simpa using znl.mpr c)] at ih'
        exact ih'
      · rintro _ rfl
        unfold wpb_X4_worse_96
        rintro _ rfl
        rw [show nI i + (1 : Int32) = nI (i + 1) from nI_1 i]
        rw [hz, if_pos (by rw [epb]; simpa using znle.mp c)] at ih'
        exact ih'
  have cA : ∀ (k i : Nat) (S Mj : zT), i + k = n → S 5 = E 5 → S 9 = E 9 → S 10 = E 10 → S 11 = E 11 → (∀ w : Nat, w < i → S 8 w = nv w) → wpl_X4_worse_6 N (fun r E' _ _ => wp_X5_worse M (fun r' M' => r' = r ∧ Inv E' N F IT IF L M')) (k + 1) (nI i) S Mj G1 := by
    intro k
    induction k with
    | zero =>
      intro i S Mj hi h5 h9 h10 h11 hs
      have : i = n := by omega
      subst this
      refine zt (by rw [hV.1]; exact Int32.le_refl _) ?_
      unfold wpb_X4_worse_42
      refine R_run hV.1 h8 (fun G2 hG2 => ⟨i + 1, cB i 0 S Mj G2 (by omega) h5 h9 h10 h11 hs (fun w hw => ?_)⟩)
      obtain ⟨j, hj, ej⟩ := who (T := N) hw
      have := (hG2.2 j hj).2.2.2.2.2.2.2
      rw [ej] at this
      rw [this, ← ej, enw j hj]
    | succ k ih =>
      intro i S Mj hi h5 h9 h10 h11 hs
      have hin : i < n := by omega
      refine zf (by rw [hV.1]; exact nI_ge hin (by omega)) (R_at rfl (show i < 8 by omega) (by decide) (R_put rfl (show i < 8 by omega) (by decide) ?_))
      rintro _ rfl
      rintro _ rfl
      rw [show nI i + (1 : Int32) = nI (i + 1) from nI_1 i]
      refine ih (i + 1) _ Mj (by omega) h5 h9 h10 h11 (fun w hw => ?_)
      show upd (S 8) i (G1 7 i) w = nv w
      by_cases z : w = i
      · subst z; rw [pk_us]; exact g7 w hin
      · rw [pk_un z]; exact hs w (by omega)
  exact cA n 0 E _ (by omega) rfl rfl rfl rfl (fun w hw => absurd hw (Nat.not_lt_zero w))
end OK8

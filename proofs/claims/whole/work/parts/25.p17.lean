section OK9
variable {E N F IT IF L M G Mi : zT}
theorem ok_followed (hI : Inv E N F IT IF L M) : wp_X4_followed E N G (fun r _ => wp_X5_followed M (fun r' M' => r' = r ∧ Inv E N F IT IF L M')) := by
  obtain ⟨R, ⟨n, hV⟩, -⟩ := id hI
  have h8 := hV.2.1
  refine R_run hV.1 h8 (fun G1 hG => ?_)
  obtain ⟨pb, epb⟩ : ∃ pb : Nat → Bool, ∀ w : Nat, pb w = (!decide (tv N w 0 = 4) && decide (G1 3 w = 0)) := ⟨_, fun _ => rfl⟩
  have hz : ∀ i : Nat, zbit pb (i + 1) = if pb i then zbit pb i ||| ((1 : Int32) <<< (nI i &&& 31)) else zbit pb i := fun _ => rfl
  have mAll : wp_X5_followed M (fun r' M' => r' = zbit pb n ∧ Inv E N F IT IF L M') := by
    refine M_all R hV (fun S hS => ⟨n + 1, ?_⟩)
    have RS := TR_keep R hS.1
    have h13 : S 13 0 = nI n := RS.2.2.trans hV.1
    have key : ∀ k i : Nat, i + k = n → wpl_X5_followed_8 (fun r' M' => r' = zbit pb n ∧ Inv E N F IT IF L M') (k + 1) (zbit pb i) (nI i) S := by
      intro k
      induction k with
      | zero =>
        intro i hi
        have : i = n := by omega
        subst this
        exact zt (by rw [h13]; exact Int32.le_refl _) ⟨rfl, Inv_mKeep hI hS.1⟩
      | succ k ih =>
        intro i hi
        have hin : i < n := by omega
        have ih' := ih (i + 1) (by omega)
        rw [hz] at ih'
        have skip : pb i = false → ∀ x2 : Int32, x2 = zbit pb i → wpb_X5_followed_42 (fun r' M' => r' = zbit pb n ∧ Inv E N F IT IF L M') (fun x1 x2 S => wpl_X5_followed_8 (fun r' M' => r' = zbit pb n ∧ Inv E N F IT IF L M') (k + 1) x1 x2 S) (nI i) x2 S := by
          rintro hp _ rfl
          unfold wpb_X5_followed_42
          rintro _ rfl
          rintro _ rfl
          rw [show nI i + (1 : Int32) = nI (i + 1) from nI_1 i, zor0]
          rw [hp] at ih'
          exact ih'
        refine zf (by rw [h13]; exact nI_ge hin (by omega)) ⟨zv8 (by omega), ?_⟩
        rw [zcl (by omega), (RS.2.1 i (by omega)).1, ← (same_at hG hS hin).2.2.1]
        refine ⟨fun c => skip (by rw [epb]; simp [c]) _ rfl, fun c => ⟨zv8 (by omega), fun c2 => ?_, fun c2 => skip (by rw [epb]; simp [c2]) _ rfl⟩⟩
        have hp : pb i = true := by rw [epb]; simp [c, c2]
        rintro _ rfl
        rintro _ rfl
        rw [show nI i + (1 : Int32) = nI (i + 1) from nI_1 i]
        rw [hp] at ih'
        exact ih'
    exact key n 0 (by omega)
  refine ⟨n + 1, ?_⟩
  have key : ∀ k i : Nat, i + k = n → wpl_X4_followed_15 E N (fun r _ => wp_X5_followed M (fun r' M' => r' = r ∧ Inv E N F IT IF L M')) (k + 1) (zbit pb i) (nI i) G1 := by
    intro k
    induction k with
    | zero =>
      intro i hi
      have : i = n := by omega
      subst this
      exact zt (by rw [hV.1]; exact Int32.le_refl _) mAll
    | succ k ih =>
      intro i hi
      have hin : i < n := by omega
      have ih' := ih (i + 1) (by omega)
      rw [hz] at ih'
      refine zf (by rw [hV.1]; exact nI_ge hin (by omega)) (R_of (k := 0) rfl rfl (show i < 8 by omega) (by decide) ⟨fun c => ?_, fun c => R_at rfl (show i < 8 by omega) (by decide) ⟨fun c2 => ?_, fun c2 => ?_⟩⟩)
      · have hp : pb i = false := by rw [epb]; simp [c]
        unfold wpb_X4_followed_59
        rintro _ rfl
        rw [show nI i + (1 : Int32) = nI (i + 1) from nI_1 i]
        rw [hp] at ih'
        exact ih'
      · have hp : pb i = true := by rw [epb]; simp [c, c2]
        rintro _ rfl
        unfold wpb_X4_followed_59
        rintro _ rfl
        rw [show nI i + (1 : Int32) = nI (i + 1) from nI_1 i]
        rw [hp] at ih'
        exact ih'
      · have hp : pb i = false := by rw [epb]; simp [c2]
        unfold wpb_X4_followed_59
        rintro _ rfl
        rw [show nI i + (1 : Int32) = nI (i + 1) from nI_1 i]
        rw [hp] at ih'
        exact ih'
  exact key n 0 (by omega)
theorem ok_judge (hI : Inv E N F IT IF L M) : wp_X4_judge N E G (fun r E' _ => wp_X5_judge M (fun r' M' => r' = r ∧ Inv E' N F IT IF L M')) := by
  have hI' := hI
  obtain ⟨R, ⟨n, hV⟩, h3, h4, h5, h6, ⟨e11, e5, e10, e9, r, hr, hr8⟩, him⟩ := hI
  have h8 := hV.2.1
  have g40 : M 40 0 = nI r := by rw [← e10]; exact hr
  refine R_run hV.1 h8 (fun G1 hG => ?_)
  rintro _ rfl
  rintro _ rfl
  intro E2 eE2
  obtain ⟨b, eb⟩ : ∃ b : Nat, b = if n < r then n else r := ⟨_, rfl⟩
  have hbn : b ≤ n ∧ b ≤ r := by rw [eb]; split <;> omega
  have ebI : (if N 2 0 < E 10 0 then N 2 0 else E 10 0) = nI b := by
    rw [hV.1, hr, eb]
    by_cases z : n < r
    · rw [if_pos z, if_pos ((nI_ltI (by omega) (by omega)).mpr z)]
    · rw [if_neg z, if_neg (fun q => z ((nI_ltI (by omega) (by omega)).mp q))]
  rw [ebI, hr]
  have f9 : ∀ i : Nat, E2 9 i = E 9 i := by rw [eE2]; exact fun _ => rfl
  -- the state behind it
  have inv2 : ∀ M' : zT, mKeep (va_up M 40 (fun _ => 0)) M' → Inv E2 N F IT IF L M' := by
    intro M' hk
    have k : ∀ j : Nat, (j < 26 ∨ 37 < j) → j ≠ 40 → M' j = M j := by
      intro j hj h40
      rw [hk j hj]
      exact if_neg h40
    have base : Inv E N F IT IF L (va_up M' 40 (M 40)) := Inv_keep hI' (fun j h1 _ _ _ => by
      by_cases z : j = 40
      · rw [z]; rfl
      · show (if j = 40 then M 40 else M' j) = M j
        rw [if_neg z]
        exact k j (by omega) z)
    obtain ⟨a1, a2, a3, a4, a5, a6, ⟨b1, b2, b3, b4, b5⟩, a8⟩ := base
    refine ⟨a1, a2, a3, a4, a5, a6, ⟨?_, ?_, ?_, ?_, 0, ?_, by decide⟩, ?_⟩
    · rw [eE2]; exact b1
    · rw [eE2]; exact b2
    · rw [eE2, hk 40 (by decide)]; rfl
    · rw [eE2]; exact b4
    · rw [eE2]; rfl
    · rw [eE2]; exact a8
  have ord : ∀ S : zT, zMG N n P00 (va_up M 40 (fun _ => 0)) S → ∀ i : Nat, i < n → S 26 i = G1 0 i := by
    intro S hS i hi
    rw [(hS.2.2.1 i (by rw [zcn_f]; exact hi)).1, (hG.2 i hi).1]
  obtain ⟨S0, hS0⟩ : ∃ f : zT → Prop, f = fun S => zMG N n P00 (va_up M 40 (fun _ => 0)) S := ⟨_, rfl⟩
  -- the reference
  have mTail : ∀ (res : Int32), (∀ S : zT, zMG N n P00 (va_up M 40 (fun _ => 0)) S → ∃ nn : Nat, wpl_X5_judge_33 (fun r' M' => r' = res ∧ Inv E2 N F IT IF L M') nn (nI r) (nI b) 0 S) → wp_X5_judge M (fun r' M' => r' = res ∧ Inv E2 N F IT IF L M') := by
    intro res h
    rintro _ rfl
    rintro _ rfl
    refine M_all (T := N) R hV (fun S hS => ?_)
    rw [hS.2.1, zcn_f, g40]
    unfold wpb_X5_judge_30
    refine ⟨fun c => ?_, fun c => ?_⟩
    · have c' := (nI_leI (by omega) (by omega)).mp c
      have e : b = n := by rw [eb]; split <;> omega
      have := h S hS
      rw [e] at this
      exact this
    · have c' : ¬ n ≤ r := fun z => c ((nI_leI (by omega) (by omega)).mpr z)
      have e : b = r := by rw [eb]; split <;> omega
      have := h S hS
      rw [e] at this
      exact this
  -- both, place by place
  have key : ∀ k i : Nat, i + k = b → (∀ j : Nat, j < i → E 9 j = G1 0 j) → wpl_X4_judge_35 N (fun r E' _ => wp_X5_judge M (fun r' M' => r' = r ∧ Inv E' N F IT IF L M')) (k + 1) (nI r) (nI b) (nI i) E2 G1 := by
    -- the reference comes to the first place i, and there to its answer
    have mGo : ∀ (res : Int32) (i : Nat), i ≤ b → (∀ j : Nat, j < i → E 9 j = G1 0 j) → (∀ (S : zT), zMG N n P00 (va_up M 40 (fun _ => 0)) S → wpl_X5_judge_33 (fun r' M' => r' = res ∧ Inv E2 N F IT IF L M') 1 (nI r) (nI b) (nI i) S) → wp_X5_judge M (fun r' M' => r' = res ∧ Inv E2 N F IT IF L M') := by
      intro res i hi hall hend
      refine mTail res (fun S hS => ⟨i + 1, ?_⟩)
      have up : ∀ t u : Nat, u + t = i → wpl_X5_judge_33 (fun r' M' => r' = res ∧ Inv E2 N F IT IF L M') (t + 1) (nI r) (nI b) (nI u) S := by
        intro t
        induction t with
        | zero =>
          intro u hu
          have : u = i := by omega
          subst this
          exact hend S hS
        | succ t ih =>
          intro u hu
          have hu8 : u < 8 := by omega
          refine zf (nI_ge (by omega) (by omega)) ⟨zv8 hu8, zv8 hu8, ?_⟩
          rw [zcl (by omega)]
          have e39 : S 39 u = E 9 u := by
            have := hS.1 39 (by decide)
            rw [this]
            exact (e9 u hu8).symm
          refine zt ?_ ?_
          · rw [e39, ord S hS u (by omega)]
            exact hall u (by omega)
          · rintro _ rfl
            rw [show nI u + (1 : Int32) = nI (u + 1) from nI_1 u]
            exact ih (u + 1) (by omega)
      exact up i 0 (by omega)
    intro k
    induction k with
    | zero =>
      intro i hi hall
      have : i = b := by omega
      subst this
      refine zt (Int32.le_refl _) ?_
      unfold wpb_X4_judge_70
      rw [hV.1]
      refine ⟨fun c => mGo _ i (Nat.le_refl _) hall (fun S hS => zt (Int32.le_refl _) ?_), fun c => mGo _ i (Nat.le_refl _) hall (fun S hS => zt (Int32.le_refl _) ?_)⟩
      · unfold wpb_X5_judge_61
        rw [hS.2.1, zcn_f]
        exact zt c ⟨rfl, inv2 S hS.1⟩
      · unfold wpb_X5_judge_61
        rw [hS.2.1, zcn_f]
        exact zf c ⟨rfl, inv2 S hS.1⟩
    | succ k ih =>
      intro i hi hall
      have hi8 : i < 8 := by omega
      refine zf (nI_ge (by omega) (by omega)) (R_at rfl hi8 (by decide) (R_at rfl hi8 (by decide) ⟨fun c => ?_, fun c => ?_⟩))
      · rintro _ rfl
        rw [show nI i + (1 : Int32) = nI (i + 1) from nI_1 i]
        refine ih (i + 1) (by omega) (fun j hj => ?_)
        rcases Nat.lt_or_ge j i with q | q
        · exact hall j q
        · have : j = i := by omega
          subst this
          rw [← f9]
          exact c
      · refine mGo _ i (by omega) hall (fun S hS => zf (nI_ge (by omega) (by omega)) ⟨zv8 hi8, zv8 hi8, ?_⟩)
        rw [zcl (by omega)]
        have e39 : S 39 i = E 9 i := by
          have := hS.1 39 (by decide)
          rw [this]
          exact (e9 i hi8).symm
        refine zf ?_ ⟨rfl, inv2 S hS.1⟩
        rw [e39, ord S hS i (by omega), ← f9]
        exact c
  exact ⟨b + 1, key b 0 (by omega) (fun j hj => absurd hj (Nat.not_lt_zero j))⟩
/-- one walker left out: the numbers of the others -/
def zph (k w : Nat) : Nat := if w < k then w else w + 1
def TLo (A B : zT) (n k : Nat) : Prop := (∀ j : Nat, j < 5 → A 0 j = B 0 j) ∧ (∀ w : Nat, w + 1 < n → ∀ j : Nat, j < 7 → tv A w j = tv B (zph k w) j) ∧ A 2 0 = nI (n - 1)
theorem R_leave {B : zT} {n k : Nat} {Q : zT → Prop} (hB : B 2 0 = nI n) (h8 : n ≤ 8) (hk : k < n) (h : ∀ A : zT, TLo A B n k → Q A) : wp_X3_leaveOut (nI k) B Q := by
  refine R_has hB h8 (fun w hw e => zf (by decide) ?_) (fun z => (nno h8 hk z rfl).elim)
  intro S0 e0
  have h20 : S0 2 0 = nI (n - 1) := by
    rw [e0]
    show B 2 0 - 1 = _
    rw [hB, show (1 : Int32) = nI 1 from rfl, pk_sub (by omega)]
  have inner : ∀ (x i : Nat) (A : zT) (K20 : Int32 → zT → Prop), i + x = 7 → A 2 0 = nI (n - 1) → ∀ v : Nat, v + 1 < 8 → (∀ A' : zT, A' 0 = A 0 → A' 2 = A 2 → (∀ j : Nat, j < 7 → tv A' v j = if j < i then tv A v j else tv A (v + 1) j) → (∀ u j : Nat, u ≠ v → j < 7 → tv A' u j = tv A u j) → K20 (nI (v + 1)) A') → wpl_X3_leaveOut_30 (nI k) Q K20 (x + 1) (nI v) (nI i) A := by
    intro x
    induction x with
    | zero =>
      intro i A K20 hi hA v hv hK
      have : i = 7 := by omega
      subst this
      refine zt (Int32.le_refl _) ?_
      unfold wpb_X3_leaveOut_56
      rintro _ rfl
      rw [nI_1]
      exact hK A rfl rfl (fun j hj => by rw [if_pos hj]) (fun u j _ _ => rfl)
    | succ x ih =>
      intro i A K20 hi hA v hv hK
      have e7 : nI v * 7 + nI i = nI (v * 7 + i) := by rw [show (7 : Int32) = nI 7 from rfl, pk_mul, nI_add]
      refine zf (nI_ge (b := 7) (by omega) (by omega)) ?_
      rw [nI_1]
      refine R_of rfl rfl (show v + 1 < 8 by omega) (show i < 7 by omega) (R_put e7 (show v * 7 + i < 56 by omega) (by decide) ?_)
      rintro _ rfl
      rintro _ rfl
      rw [show nI i + (1 : Int32) = nI (i + 1) from nI_1 i]
      refine ih (i + 1) (va_up A 1 (upd (A 1) (v * 7 + i) (tv A (v + 1) i))) K20 (by omega) hA v hv (fun A' a0 a2 av au => hK A' a0 a2 (fun j hj => ?_) (fun u j hu hj => ?_))
      · have at1 : ∀ u j : Nat, tv (va_up A 1 (upd (A 1) (v * 7 + i) (tv A (v + 1) i))) u j = if u * 7 + j = v * 7 + i then tv A (v + 1) i else tv A u j := by
          intro u j
          show upd (A 1) (v * 7 + i) (tv A (v + 1) i) (u * 7 + j) = _
          by_cases z : u * 7 + j = v * 7 + i
          · rw [if_pos z, z, pk_us]
          · rw [if_neg z, pk_un z]; rfl
        rw [av j hj, at1, at1]
        by_cases z : j < i
        · rw [if_pos (by omega), if_neg (by omega), if_pos z]
        · rw [if_neg z]
          by_cases z2 : j = i
          · subst z2
            rw [if_pos (by omega), if_pos rfl]
          · rw [if_neg (by omega), if_neg (by omega)]
      · rw [au u j hu hj]
        show upd (A 1) (v * 7 + i) (tv A (v + 1) i) (u * 7 + j) = _
        rw [pk_un (by omega)]
        rfl
  have outer : ∀ (x v : Nat) (A : zT), v + x = n - 1 → k ≤ v → A 0 = B 0 → A 2 0 = nI (n - 1) → (∀ u j : Nat, u < v → j < 7 → tv A u j = tv B (zph k u) j) → (∀ u j : Nat, v ≤ u → j < 7 → tv A u j = tv B u j) → wpl_X3_leaveOut_20 (nI k) Q (x + 1) (nI v) A := by
    intro x
    induction x with
    | zero =>
      intro v A hv hkv a0 a2 alo ahi
      have : v = n - 1 := by omega
      subst this
      exact zt (by rw [a2]; exact Int32.le_refl _) (h A ⟨fun j _ => by rw [a0], fun u hu j hj => alo u j (by omega) hj, a2⟩)
    | succ x ih =>
      intro v A hv hkv a0 a2 alo ahi
      refine zf (by rw [a2]; exact nI_ge (by omega) (by omega)) ⟨8, ?_⟩
      refine inner 7 0 A _ (by omega) a2 v (by omega) (fun A' b0 b2 bv bu => ?_)
      refine ih (v + 1) A' (by omega) (by omega) (by rw [b0, a0]) (by rw [b2]; exact a2) (fun u j hu hj => ?_) (fun u j hu hj => ?_)
      · by_cases z : u = v
        · subst z
          rw [bv j hj, if_neg (by omega), ahi (u + 1) j (by omega) hj]
          unfold zph
          rw [if_neg (by omega)]
        · rw [bu u j z hj]
          exact alo u j (by omega) hj
      · rw [bu u j (by omega) hj]
        exact ahi u j (by omega) hj
  refine ⟨n - 1 - k + 1, outer (n - 1 - k) k S0 (by omega) (Nat.le_refl _) (by rw [e0]; rfl) h20 (fun u j hu hj => ?_) (fun u j _ _ => by rw [e0]; rfl)⟩
  unfold zph
  rw [if_pos hu, e0]
  rfl
end OK9

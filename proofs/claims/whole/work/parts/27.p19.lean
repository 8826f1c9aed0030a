/-! rows are kept and put back -/
/-- the first n of f put into g from place c on -/
def zcp (f g : Nat → Int32) (c n : Nat) : Nat → Int32 := fun p => if c ≤ p ∧ p < c + n then f (p - c) else g p
/-- the first n of g become those of f from place c on -/
def zba (f g : Nat → Int32) (c n : Nat) : Nat → Int32 := fun p => if p < n then f (c + p) else g p
theorem zcp_0 (f g : Nat → Int32) (c : Nat) : zcp f g c 0 = g := by
  funext p
  show (if c ≤ p ∧ p < c + 0 then f (p - c) else g p) = g p
  rw [if_neg (by omega)]
theorem zcp_S (f g : Nat → Int32) (c n : Nat) : upd (zcp f g c n) (c + n) (f n) = zcp f g c (n + 1) := by
  funext p
  by_cases z : p = c + n
  · subst z
    rw [pk_us]
    show f n = (if c ≤ c + n ∧ c + n < c + (n + 1) then f (c + n - c) else g (c + n))
    rw [if_pos (by omega), show c + n - c = n by omega]
  · rw [pk_un z]
    show (if c ≤ p ∧ p < c + n then f (p - c) else g p) = (if c ≤ p ∧ p < c + (n + 1) then f (p - c) else g p)
    by_cases y : c ≤ p ∧ p < c + n
    · rw [if_pos y, if_pos (by omega)]
    · rw [if_neg y, if_neg (by omega)]
theorem zba_0 (f g : Nat → Int32) (c : Nat) : zba f g c 0 = g := by
  funext p
  show (if p < 0 then f (c + p) else g p) = g p
  rw [if_neg (by omega)]
theorem zba_S (f g : Nat → Int32) (c n : Nat) : upd (zba f g c n) n (f (c + n)) = zba f g c (n + 1) := by
  funext p
  by_cases z : p = n
  · subst z
    rw [pk_us]
    show f (c + p) = (if p < p + 1 then f (c + p) else g p)
    rw [if_pos (by omega)]
  · rw [pk_un z]
    show (if p < n then f (c + p) else g p) = (if p < n + 1 then f (c + p) else g p)
    by_cases y : p < n
    · rw [if_pos y, if_pos (by omega)]
    · rw [if_neg y, if_neg (by omega)]
section PASS
variable {S : zT} {Q : zT → Prop}
theorem M_keep1 {c : Nat} (h24 : ¬ S 24 0 = 0) (h25 : S 25 0 = nI c) (hc : c + 8 ≤ 220) (h : ∀ A : zT, (∀ j : Nat, j ≠ 22 → j ≠ 25 → A j = S j) → A 22 = zcp (S 1) (S 22) c 8 → A 25 0 = nI (c + 8) → Q A) : wp_X5_passes_k1 S Q := by
  have key : ∀ (x i : Nat) (A : zT), i + x = 8 → (∀ j : Nat, j ≠ 22 → j ≠ 25 → A j = S j) → A 22 = zcp (S 1) (S 22) c i → A 25 0 = nI (c + i) → wpl_X5_passes_k1_2 Q (x + 1) (nI i) A := by
    intro x
    induction x with
    | zero =>
      intro i A hi h1 h2 h3
      have : i = 8 := by omega
      subst this
      exact zt (Int32.le_refl _) (h A h1 h2 h3)
    | succ x ih =>
      intro i A hi h1 h2 h3
      refine zf (nI_ge (b := 8) (by omega) (by omega)) ?_
      rw [h1 24 (by decide) (by decide), h3]
      refine zf h24 ⟨vp_in_nI (by omega) (by decide), vp_in_nI (by omega) (by decide), ?_⟩
      rw [zcl (show i < 1000 by omega), zcl (show c + i < 1000 by omega), h1 1 (by decide) (by decide), h2, zcp_S]
      rintro _ rfl
      unfold wpb_X5_passes_k1_42
      rintro _ rfl _ rfl
      rw [show nI i + (1 : Int32) = nI (i + 1) from nI_1 i]
      refine ih (i + 1) _ (by omega) (fun j q1 q2 => ?_) ?_ ?_
      · rw [va_up_ne _ _ q2, va_up_ne _ _ q1]
        exact h1 j q1 q2
      · rw [va_up_ne _ _ (by decide), va_up_self]
      · rw [va_up_self, va_up_ne _ _ (by decide), h3, nI_1, Nat.add_assoc]
  exact ⟨9, key 8 0 S (by omega) (fun _ _ _ => rfl) (zcp_0 _ _ _).symm h25⟩
theorem M_back1 {c : Nat} (h24 : S 24 0 = 0) (h25 : S 25 0 = nI c) (hc : c + 8 ≤ 220) (h : ∀ A : zT, (∀ j : Nat, j ≠ 1 → j ≠ 25 → A j = S j) → A 1 = zba (S 22) (S 1) c 8 → A 25 0 = nI (c + 8) → Q A) : wp_X5_passes_k1 S Q := by
  have key : ∀ (x i : Nat) (A : zT), i + x = 8 → (∀ j : Nat, j ≠ 1 → j ≠ 25 → A j = S j) → A 1 = zba (S 22) (S 1) c i → A 25 0 = nI (c + i) → wpl_X5_passes_k1_2 Q (x + 1) (nI i) A := by
    intro x
    induction x with
    | zero =>
      intro i A hi h1 h2 h3
      have : i = 8 := by omega
      subst this
      exact zt (Int32.le_refl _) (h A h1 h2 h3)
    | succ x ih =>
      intro i A hi h1 h2 h3
      refine zf (nI_ge (b := 8) (by omega) (by omega)) ?_
      rw [h1 24 (by decide) (by decide), h3]
      refine zt h24 ⟨vp_in_nI (by omega) (by decide), vp_in_nI (by omega) (by decide), ?_⟩
      rw [zcl (show i < 1000 by omega), zcl (show c + i < 1000 by omega), h1 22 (by decide) (by decide), h2, zba_S]
      rintro _ rfl
      unfold wpb_X5_passes_k1_42
      rintro _ rfl _ rfl
      rw [show nI i + (1 : Int32) = nI (i + 1) from nI_1 i]
      refine ih (i + 1) _ (by omega) (fun j q1 q2 => ?_) ?_ ?_
      · rw [va_up_ne _ _ q2, va_up_ne _ _ q1]
        exact h1 j q1 q2
      · rw [va_up_ne _ _ (by decide), va_up_self]
      · rw [va_up_self, va_up_ne _ _ (by decide), h3, nI_1, Nat.add_assoc]
  exact ⟨9, key 8 0 S (by omega) (fun _ _ _ => rfl) (zba_0 _ _ _).symm h25⟩
theorem M_keep2 {c : Nat} (h24 : ¬ S 24 0 = 0) (h25 : S 25 0 = nI c) (hc : c + 8 ≤ 220) (h : ∀ A : zT, (∀ j : Nat, j ≠ 22 → j ≠ 25 → A j = S j) → A 22 = zcp (S 2) (S 22) c 8 → A 25 0 = nI (c + 8) → Q A) : wp_X5_passes_k2 S Q := by
  have key : ∀ (x i : Nat) (A : zT), i + x = 8 → (∀ j : Nat, j ≠ 22 → j ≠ 25 → A j = S j) → A 22 = zcp (S 2) (S 22) c i → A 25 0 = nI (c + i) → wpl_X5_passes_k2_2 Q (x + 1) (nI i) A := by
    intro x
    induction x with
    | zero =>
      intro i A hi h1 h2 h3
      have : i = 8 := by omega
      subst this
      exact zt (Int32.le_refl _) (h A h1 h2 h3)
    | succ x ih =>
      intro i A hi h1 h2 h3
      refine zf (nI_ge (b := 8) (by omega) (by omega)) ?_
      rw [h1 24 (by decide) (by decide), h3]
      refine zf h24 ⟨vp_in_nI (by omega) (by decide), vp_in_nI (by omega) (by decide), ?_⟩
      rw [zcl (show i < 1000 by omega), zcl (show c + i < 1000 by omega), h1 2 (by decide) (by decide), h2, zcp_S]
      rintro _ rfl
      unfold wpb_X5_passes_k2_42
      rintro _ rfl _ rfl
      rw [show nI i + (1 : Int32) = nI (i + 1) from nI_1 i]
      refine ih (i + 1) _ (by omega) (fun j q1 q2 => ?_) ?_ ?_
      · rw [va_up_ne _ _ q2, va_up_ne _ _ q1]
        exact h1 j q1 q2
      · rw [va_up_ne _ _ (by decide), va_up_self]
      · rw [va_up_self, va_up_ne _ _ (by decide), h3, nI_1, Nat.add_assoc]
  exact ⟨9, key 8 0 S (by omega) (fun _ _ _ => rfl) (zcp_0 _ _ _).symm h25⟩
theorem M_back2 {c : Nat} (h24 : S 24 0 = 0) (h25 : S 25 0 = nI c) (hc : c + 8 ≤ 220) (h : ∀ A : zT, (∀ j : Nat, j ≠ 2 → j ≠ 25 → A j = S j) → A 2 = zba (S 22) (S 2) c 8 → A 25 0 = nI (c + 8) → Q A) : wp_X5_passes_k2 S Q := by
  have key : ∀ (x i : Nat) (A : zT), i + x = 8 → (∀ j : Nat, j ≠ 2 → j ≠ 25 → A j = S j) → A 2 = zba (S 22) (S 2) c i → A 25 0 = nI (c + i) → wpl_X5_passes_k2_2 Q (x + 1) (nI i) A := by
    intro x
    induction x with
    | zero =>
      intro i A hi h1 h2 h3
      have : i = 8 := by omega
      subst this
      exact zt (Int32.le_refl _) (h A h1 h2 h3)
    | succ x ih =>
      intro i A hi h1 h2 h3
      refine zf (nI_ge (b := 8) (by omega) (by omega)) ?_
      rw [h1 24 (by decide) (by decide), h3]
      refine zt h24 ⟨vp_in_nI (by omega) (by decide), vp_in_nI (by omega) (by decide), ?_⟩
      rw [zcl (show i < 1000 by omega), zcl (show c + i < 1000 by omega), h1 22 (by decide) (by decide), h2, zba_S]
      rintro _ rfl
      unfold wpb_X5_passes_k2_42
      rintro _ rfl _ rfl
      rw [show nI i + (1 : Int32) = nI (i + 1) from nI_1 i]
      refine ih (i + 1) _ (by omega) (fun j q1 q2 => ?_) ?_ ?_
      · rw [va_up_ne _ _ q2, va_up_ne _ _ q1]
        exact h1 j q1 q2
      · rw [va_up_ne _ _ (by decide), va_up_self]
      · rw [va_up_self, va_up_ne _ _ (by decide), h3, nI_1, Nat.add_assoc]
  exact ⟨9, key 8 0 S (by omega) (fun _ _ _ => rfl) (zba_0 _ _ _).symm h25⟩
theorem M_keep3 {c : Nat} (h24 : ¬ S 24 0 = 0) (h25 : S 25 0 = nI c) (hc : c + 8 ≤ 220) (h : ∀ A : zT, (∀ j : Nat, j ≠ 22 → j ≠ 25 → A j = S j) → A 22 = zcp (S 3) (S 22) c 8 → A 25 0 = nI (c + 8) → Q A) : wp_X5_passes_k3 S Q := by
  have key : ∀ (x i : Nat) (A : zT), i + x = 8 → (∀ j : Nat, j ≠ 22 → j ≠ 25 → A j = S j) → A 22 = zcp (S 3) (S 22) c i → A 25 0 = nI (c + i) → wpl_X5_passes_k3_2 Q (x + 1) (nI i) A := by
    intro x
    induction x with
    | zero =>
      intro i A hi h1 h2 h3
      have : i = 8 := by omega
      subst this
      exact zt (Int32.le_refl _) (h A h1 h2 h3)
    | succ x ih =>
      intro i A hi h1 h2 h3
      refine zf (nI_ge (b := 8) (by omega) (by omega)) ?_
      rw [h1 24 (by decide) (by decide), h3]
      refine zf h24 ⟨vp_in_nI (by omega) (by decide), vp_in_nI (by omega) (by decide), ?_⟩
      rw [zcl (show i < 1000 by omega), zcl (show c + i < 1000 by omega), h1 3 (by decide) (by decide), h2, zcp_S]
      rintro _ rfl
      unfold wpb_X5_passes_k3_42
      rintro _ rfl _ rfl
      rw [show nI i + (1 : Int32) = nI (i + 1) from nI_1 i]
      refine ih (i + 1) _ (by omega) (fun j q1 q2 => ?_) ?_ ?_
      · rw [va_up_ne _ _ q2, va_up_ne _ _ q1]
        exact h1 j q1 q2
      · rw [va_up_ne _ _ (by decide), va_up_self]
      · rw [va_up_self, va_up_ne _ _ (by decide), h3, nI_1, Nat.add_assoc]
  exact ⟨9, key 8 0 S (by omega) (fun _ _ _ => rfl) (zcp_0 _ _ _).symm h25⟩
theorem M_back3 {c : Nat} (h24 : S 24 0 = 0) (h25 : S 25 0 = nI c) (hc : c + 8 ≤ 220) (h : ∀ A : zT, (∀ j : Nat, j ≠ 3 → j ≠ 25 → A j = S j) → A 3 = zba (S 22) (S 3) c 8 → A 25 0 = nI (c + 8) → Q A) : wp_X5_passes_k3 S Q := by
  have key : ∀ (x i : Nat) (A : zT), i + x = 8 → (∀ j : Nat, j ≠ 3 → j ≠ 25 → A j = S j) → A 3 = zba (S 22) (S 3) c i → A 25 0 = nI (c + i) → wpl_X5_passes_k3_2 Q (x + 1) (nI i) A := by
    intro x
    induction x with
    | zero =>
      intro i A hi h1 h2 h3
      have : i = 8 := by omega
      subst this
      exact zt (Int32.le_refl _) (h A h1 h2 h3)
    | succ x ih =>
      intro i A hi h1 h2 h3
      refine zf (nI_ge (b := 8) (by omega) (by omega)) ?_
      rw [h1 24 (by decide) (by decide), h3]
      refine zt h24 ⟨vp_in_nI (by omega) (by decide), vp_in_nI (by omega) (by decide), ?_⟩
      rw [zcl (show i < 1000 by omega), zcl (show c + i < 1000 by omega), h1 22 (by decide) (by decide), h2, zba_S]
      rintro _ rfl
      unfold wpb_X5_passes_k3_42
      rintro _ rfl _ rfl
      rw [show nI i + (1 : Int32) = nI (i + 1) from nI_1 i]
      refine ih (i + 1) _ (by omega) (fun j q1 q2 => ?_) ?_ ?_
      · rw [va_up_ne _ _ q2, va_up_ne _ _ q1]
        exact h1 j q1 q2
      · rw [va_up_ne _ _ (by decide), va_up_self]
      · rw [va_up_self, va_up_ne _ _ (by decide), h3, nI_1, Nat.add_assoc]
  exact ⟨9, key 8 0 S (by omega) (fun _ _ _ => rfl) (zba_0 _ _ _).symm h25⟩
theorem M_keep4 {c : Nat} (h24 : ¬ S 24 0 = 0) (h25 : S 25 0 = nI c) (hc : c + 8 ≤ 220) (h : ∀ A : zT, (∀ j : Nat, j ≠ 22 → j ≠ 25 → A j = S j) → A 22 = zcp (S 4) (S 22) c 8 → A 25 0 = nI (c + 8) → Q A) : wp_X5_passes_k4 S Q := by
  have key : ∀ (x i : Nat) (A : zT), i + x = 8 → (∀ j : Nat, j ≠ 22 → j ≠ 25 → A j = S j) → A 22 = zcp (S 4) (S 22) c i → A 25 0 = nI (c + i) → wpl_X5_passes_k4_2 Q (x + 1) (nI i) A := by
    intro x
    induction x with
    | zero =>
      intro i A hi h1 h2 h3
      have : i = 8 := by omega
      subst this
      exact zt (Int32.le_refl _) (h A h1 h2 h3)
    | succ x ih =>
      intro i A hi h1 h2 h3
      refine zf (nI_ge (b := 8) (by omega) (by omega)) ?_
      rw [h1 24 (by decide) (by decide), h3]
      refine zf h24 ⟨vp_in_nI (by omega) (by decide), vp_in_nI (by omega) (by decide), ?_⟩
      rw [zcl (show i < 1000 by omega), zcl (show c + i < 1000 by omega), h1 4 (by decide) (by decide), h2, zcp_S]
      rintro _ rfl
      unfold wpb_X5_passes_k4_42
      rintro _ rfl _ rfl
      rw [show nI i + (1 : Int32) = nI (i + 1) from nI_1 i]
      refine ih (i + 1) _ (by omega) (fun j q1 q2 => ?_) ?_ ?_
      · rw [va_up_ne _ _ q2, va_up_ne _ _ q1]
        exact h1 j q1 q2
      · rw [va_up_ne _ _ (by decide), va_up_self]
      · rw [va_up_self, va_up_ne _ _ (by decide), h3, nI_1, Nat.add_assoc]
  exact ⟨9, key 8 0 S (by omega) (fun _ _ _ => rfl) (zcp_0 _ _ _).symm h25⟩
theorem M_back4 {c : Nat} (h24 : S 24 0 = 0) (h25 : S 25 0 = nI c) (hc : c + 8 ≤ 220) (h : ∀ A : zT, (∀ j : Nat, j ≠ 4 → j ≠ 25 → A j = S j) → A 4 = zba (S 22) (S 4) c 8 → A 25 0 = nI (c + 8) → Q A) : wp_X5_passes_k4 S Q := by
  have key : ∀ (x i : Nat) (A : zT), i + x = 8 → (∀ j : Nat, j ≠ 4 → j ≠ 25 → A j = S j) → A 4 = zba (S 22) (S 4) c i → A 25 0 = nI (c + i) → wpl_X5_passes_k4_2 Q (x + 1) (nI i) A := by
    intro x
    induction x with
    | zero =>
      intro i A hi h1 h2 h3
      have : i = 8 := by omega
      subst this
      exact zt (Int32.le_refl _) (h A h1 h2 h3)
    | succ x ih =>
      intro i A hi h1 h2 h3
      refine zf (nI_ge (b := 8) (by omega) (by omega)) ?_
      rw [h1 24 (by decide) (by decide), h3]
      refine zt h24 ⟨vp_in_nI (by omega) (by decide), vp_in_nI (by omega) (by decide), ?_⟩
      rw [zcl (show i < 1000 by omega), zcl (show c + i < 1000 by omega), h1 22 (by decide) (by decide), h2, zba_S]
      rintro _ rfl
      unfold wpb_X5_passes_k4_42
      rintro _ rfl _ rfl
      rw [show nI i + (1 : Int32) = nI (i + 1) from nI_1 i]
      refine ih (i + 1) _ (by omega) (fun j q1 q2 => ?_) ?_ ?_
      · rw [va_up_ne _ _ q2, va_up_ne _ _ q1]
        exact h1 j q1 q2
      · rw [va_up_ne _ _ (by decide), va_up_self]
      · rw [va_up_self, va_up_ne _ _ (by decide), h3, nI_1, Nat.add_assoc]
  exact ⟨9, key 8 0 S (by omega) (fun _ _ _ => rfl) (zba_0 _ _ _).symm h25⟩
theorem M_keep5 {c : Nat} (h24 : ¬ S 24 0 = 0) (h25 : S 25 0 = nI c) (hc : c + 8 ≤ 220) (h : ∀ A : zT, (∀ j : Nat, j ≠ 22 → j ≠ 25 → A j = S j) → A 22 = zcp (S 5) (S 22) c 8 → A 25 0 = nI (c + 8) → Q A) : wp_X5_passes_k5 S Q := by
  have key : ∀ (x i : Nat) (A : zT), i + x = 8 → (∀ j : Nat, j ≠ 22 → j ≠ 25 → A j = S j) → A 22 = zcp (S 5) (S 22) c i → A 25 0 = nI (c + i) → wpl_X5_passes_k5_2 Q (x + 1) (nI i) A := by
    intro x
    induction x with
    | zero =>
      intro i A hi h1 h2 h3
      have : i = 8 := by omega
      subst this
      exact zt (Int32.le_refl _) (h A h1 h2 h3)
    | succ x ih =>
      intro i A hi h1 h2 h3
      refine zf (nI_ge (b := 8) (by omega) (by omega)) ?_
      rw [h1 24 (by decide) (by decide), h3]
      refine zf h24 ⟨vp_in_nI (by omega) (by decide), vp_in_nI (by omega) (by decide), ?_⟩
      rw [zcl (show i < 1000 by omega), zcl (show c + i < 1000 by omega), h1 5 (by decide) (by decide), h2, zcp_S]
      rintro _ rfl
      unfold wpb_X5_passes_k5_42
      rintro _ rfl _ rfl
      rw [show nI i + (1 : Int32) = nI (i + 1) from nI_1 i]
      refine ih (i + 1) _ (by omega) (fun j q1 q2 => ?_) ?_ ?_
      · rw [va_up_ne _ _ q2, va_up_ne _ _ q1]
        exact h1 j q1 q2
      · rw [va_up_ne _ _ (by decide), va_up_self]
      · rw [va_up_self, va_up_ne _ _ (by decide), h3, nI_1, Nat.add_assoc]
  exact ⟨9, key 8 0 S (by omega) (fun _ _ _ => rfl) (zcp_0 _ _ _).symm h25⟩
theorem M_back5 {c : Nat} (h24 : S 24 0 = 0) (h25 : S 25 0 = nI c) (hc : c + 8 ≤ 220) (h : ∀ A : zT, (∀ j : Nat, j ≠ 5 → j ≠ 25 → A j = S j) → A 5 = zba (S 22) (S 5) c 8 → A 25 0 = nI (c + 8) → Q A) : wp_X5_passes_k5 S Q := by
  have key : ∀ (x i : Nat) (A : zT), i + x = 8 → (∀ j : Nat, j ≠ 5 → j ≠ 25 → A j = S j) → A 5 = zba (S 22) (S 5) c i → A 25 0 = nI (c + i) → wpl_X5_passes_k5_2 Q (x + 1) (nI i) A := by
    intro x
    induction x with
    | zero =>
      intro i A hi h1 h2 h3
      have : i = 8 := by omega
      subst this
      exact zt (Int32.le_refl _) (h A h1 h2 h3)
    | succ x ih =>
      intro i A hi h1 h2 h3
      refine zf (nI_ge (b := 8) (by omega) (by omega)) ?_
      rw [h1 24 (by decide) (by decide), h3]
      refine zt h24 ⟨vp_in_nI (by omega) (by decide), vp_in_nI (by omega) (by decide), ?_⟩
      rw [zcl (show i < 1000 by omega), zcl (show c + i < 1000 by omega), h1 22 (by decide) (by decide), h2, zba_S]
      rintro _ rfl
      unfold wpb_X5_passes_k5_42
      rintro _ rfl _ rfl
      rw [show nI i + (1 : Int32) = nI (i + 1) from nI_1 i]
      refine ih (i + 1) _ (by omega) (fun j q1 q2 => ?_) ?_ ?_
      · rw [va_up_ne _ _ q2, va_up_ne _ _ q1]
        exact h1 j q1 q2
      · rw [va_up_ne _ _ (by decide), va_up_self]
      · rw [va_up_self, va_up_ne _ _ (by decide), h3, nI_1, Nat.add_assoc]
  exact ⟨9, key 8 0 S (by omega) (fun _ _ _ => rfl) (zba_0 _ _ _).symm h25⟩
theorem M_keep6 {c : Nat} (h24 : ¬ S 24 0 = 0) (h25 : S 25 0 = nI c) (hc : c + 8 ≤ 220) (h : ∀ A : zT, (∀ j : Nat, j ≠ 22 → j ≠ 25 → A j = S j) → A 22 = zcp (S 6) (S 22) c 8 → A 25 0 = nI (c + 8) → Q A) : wp_X5_passes_k6 S Q := by
  have key : ∀ (x i : Nat) (A : zT), i + x = 8 → (∀ j : Nat, j ≠ 22 → j ≠ 25 → A j = S j) → A 22 = zcp (S 6) (S 22) c i → A 25 0 = nI (c + i) → wpl_X5_passes_k6_2 Q (x + 1) (nI i) A := by
    intro x
    induction x with
    | zero =>
      intro i A hi h1 h2 h3
      have : i = 8 := by omega
      subst this
      exact zt (Int32.le_refl _) (h A h1 h2 h3)
    | succ x ih =>
      intro i A hi h1 h2 h3
      refine zf (nI_ge (b := 8) (by omega) (by omega)) ?_
      rw [h1 24 (by decide) (by decide), h3]
      refine zf h24 ⟨vp_in_nI (by omega) (by decide), vp_in_nI (by omega) (by decide), ?_⟩
      rw [zcl (show i < 1000 by omega), zcl (show c + i < 1000 by omega), h1 6 (by decide) (by decide), h2, zcp_S]
      rintro _ rfl
      unfold wpb_X5_passes_k6_42
      rintro _ rfl _ rfl
      rw [show nI i + (1 : Int32) = nI (i + 1) from nI_1 i]
      refine ih (i + 1) _ (by omega) (fun j q1 q2 => ?_) ?_ ?_
      · rw [va_up_ne _ _ q2, va_up_ne _ _ q1]
        exact h1 j q1 q2
      · rw [va_up_ne _ _ (by decide), va_up_self]
      · rw [va_up_self, va_up_ne _ _ (by decide), h3, nI_1, Nat.add_assoc]
  exact ⟨9, key 8 0 S (by omega) (fun _ _ _ => rfl) (zcp_0 _ _ _).symm h25⟩
theorem M_back6 {c : Nat} (h24 : S 24 0 = 0) (h25 : S 25 0 = nI c) (hc : c + 8 ≤ 220) (h : ∀ A : zT, (∀ j : Nat, j ≠ 6 → j ≠ 25 → A j = S j) → A 6 = zba (S 22) (S 6) c 8 → A 25 0 = nI (c + 8) → Q A) : wp_X5_passes_k6 S Q := by
  have key : ∀ (x i : Nat) (A : zT), i + x = 8 → (∀ j : Nat, j ≠ 6 → j ≠ 25 → A j = S j) → A 6 = zba (S 22) (S 6) c i → A 25 0 = nI (c + i) → wpl_X5_passes_k6_2 Q (x + 1) (nI i) A := by
    intro x
    induction x with
    | zero =>
      intro i A hi h1 h2 h3
      have : i = 8 := by omega
      subst this
      exact zt (Int32.le_refl _) (h A h1 h2 h3)
    | succ x ih =>
      intro i A hi h1 h2 h3
      refine zf (nI_ge (b := 8) (by omega) (by omega)) ?_
      rw [h1 24 (by decide) (by decide), h3]
      refine zt h24 ⟨vp_in_nI (by omega) (by decide), vp_in_nI (by omega) (by decide), ?_⟩
      rw [zcl (show i < 1000 by omega), zcl (show c + i < 1000 by omega), h1 22 (by decide) (by decide), h2, zba_S]
      rintro _ rfl
      unfold wpb_X5_passes_k6_42
      rintro _ rfl _ rfl
      rw [show nI i + (1 : Int32) = nI (i + 1) from nI_1 i]
      refine ih (i + 1) _ (by omega) (fun j q1 q2 => ?_) ?_ ?_
      · rw [va_up_ne _ _ q2, va_up_ne _ _ q1]
        exact h1 j q1 q2
      · rw [va_up_ne _ _ (by decide), va_up_self]
      · rw [va_up_self, va_up_ne _ _ (by decide), h3, nI_1, Nat.add_assoc]
  exact ⟨9, key 8 0 S (by omega) (fun _ _ _ => rfl) (zba_0 _ _ _).symm h25⟩
theorem M_keep7 {c : Nat} (h24 : ¬ S 24 0 = 0) (h25 : S 25 0 = nI c) (hc : c + 8 ≤ 220) (h : ∀ A : zT, (∀ j : Nat, j ≠ 22 → j ≠ 25 → A j = S j) → A 22 = zcp (S 7) (S 22) c 8 → A 25 0 = nI (c + 8) → Q A) : wp_X5_passes_k7 S Q := by
  have key : ∀ (x i : Nat) (A : zT), i + x = 8 → (∀ j : Nat, j ≠ 22 → j ≠ 25 → A j = S j) → A 22 = zcp (S 7) (S 22) c i → A 25 0 = nI (c + i) → wpl_X5_passes_k7_2 Q (x + 1) (nI i) A := by
    intro x
    induction x with
    | zero =>
      intro i A hi h1 h2 h3
      have : i = 8 := by omega
      subst this
      exact zt (Int32.le_refl _) (h A h1 h2 h3)
    | succ x ih =>
      intro i A hi h1 h2 h3
      refine zf (nI_ge (b := 8) (by omega) (by omega)) ?_
      rw [h1 24 (by decide) (by decide), h3]
      refine zf h24 ⟨vp_in_nI (by omega) (by decide), vp_in_nI (by omega) (by decide), ?_⟩
      rw [zcl (show i < 1000 by omega), zcl (show c + i < 1000 by omega), h1 7 (by decide) (by decide), h2, zcp_S]
      rintro _ rfl
      unfold wpb_X5_passes_k7_42
      rintro _ rfl _ rfl
      rw [show nI i + (1 : Int32) = nI (i + 1) from nI_1 i]
      refine ih (i + 1) _ (by omega) (fun j q1 q2 => ?_) ?_ ?_
      · rw [va_up_ne _ _ q2, va_up_ne _ _ q1]
        exact h1 j q1 q2
      · rw [va_up_ne _ _ (by decide), va_up_self]
      · rw [va_up_self, va_up_ne _ _ (by decide), h3, nI_1, Nat.add_assoc]
  exact ⟨9, key 8 0 S (by omega) (fun _ _ _ => rfl) (zcp_0 _ _ _).symm h25⟩
theorem M_back7 {c : Nat} (h24 : S 24 0 = 0) (h25 : S 25 0 = nI c) (hc : c + 8 ≤ 220) (h : ∀ A : zT, (∀ j : Nat, j ≠ 7 → j ≠ 25 → A j = S j) → A 7 = zba (S 22) (S 7) c 8 → A 25 0 = nI (c + 8) → Q A) : wp_X5_passes_k7 S Q := by
  have key : ∀ (x i : Nat) (A : zT), i + x = 8 → (∀ j : Nat, j ≠ 7 → j ≠ 25 → A j = S j) → A 7 = zba (S 22) (S 7) c i → A 25 0 = nI (c + i) → wpl_X5_passes_k7_2 Q (x + 1) (nI i) A := by
    intro x
    induction x with
    | zero =>
      intro i A hi h1 h2 h3
      have : i = 8 := by omega
      subst this
      exact zt (Int32.le_refl _) (h A h1 h2 h3)
    | succ x ih =>
      intro i A hi h1 h2 h3
      refine zf (nI_ge (b := 8) (by omega) (by omega)) ?_
      rw [h1 24 (by decide) (by decide), h3]
      refine zt h24 ⟨vp_in_nI (by omega) (by decide), vp_in_nI (by omega) (by decide), ?_⟩
      rw [zcl (show i < 1000 by omega), zcl (show c + i < 1000 by omega), h1 22 (by decide) (by decide), h2, zba_S]
      rintro _ rfl
      unfold wpb_X5_passes_k7_42
      rintro _ rfl _ rfl
      rw [show nI i + (1 : Int32) = nI (i + 1) from nI_1 i]
      refine ih (i + 1) _ (by omega) (fun j q1 q2 => ?_) ?_ ?_
      · rw [va_up_ne _ _ q2, va_up_ne _ _ q1]
        exact h1 j q1 q2
      · rw [va_up_ne _ _ (by decide), va_up_self]
      · rw [va_up_self, va_up_ne _ _ (by decide), h3, nI_1, Nat.add_assoc]
  exact ⟨9, key 8 0 S (by omega) (fun _ _ _ => rfl) (zba_0 _ _ _).symm h25⟩
theorem M_keep8 {c : Nat} (h24 : ¬ S 24 0 = 0) (h25 : S 25 0 = nI c) (hc : c + 5 ≤ 220) (h : ∀ A : zT, (∀ j : Nat, j ≠ 22 → j ≠ 25 → A j = S j) → A 22 = zcp (S 8) (S 22) c 5 → A 25 0 = nI (c + 5) → Q A) : wp_X5_passes_k8 S Q := by
  have key : ∀ (x i : Nat) (A : zT), i + x = 5 → (∀ j : Nat, j ≠ 22 → j ≠ 25 → A j = S j) → A 22 = zcp (S 8) (S 22) c i → A 25 0 = nI (c + i) → wpl_X5_passes_k8_2 Q (x + 1) (nI i) A := by
    intro x
    induction x with
    | zero =>
      intro i A hi h1 h2 h3
      have : i = 5 := by omega
      subst this
      exact zt (Int32.le_refl _) (h A h1 h2 h3)
    | succ x ih =>
      intro i A hi h1 h2 h3
      refine zf (nI_ge (b := 5) (by omega) (by omega)) ?_
      rw [h1 24 (by decide) (by decide), h3]
      refine zf h24 ⟨vp_in_nI (by omega) (by decide), vp_in_nI (by omega) (by decide), ?_⟩
      rw [zcl (show i < 1000 by omega), zcl (show c + i < 1000 by omega), h1 8 (by decide) (by decide), h2, zcp_S]
      rintro _ rfl
      unfold wpb_X5_passes_k8_42
      rintro _ rfl _ rfl
      rw [show nI i + (1 : Int32) = nI (i + 1) from nI_1 i]
      refine ih (i + 1) _ (by omega) (fun j q1 q2 => ?_) ?_ ?_
      · rw [va_up_ne _ _ q2, va_up_ne _ _ q1]
        exact h1 j q1 q2
      · rw [va_up_ne _ _ (by decide), va_up_self]
      · rw [va_up_self, va_up_ne _ _ (by decide), h3, nI_1, Nat.add_assoc]
  exact ⟨6, key 5 0 S (by omega) (fun _ _ _ => rfl) (zcp_0 _ _ _).symm h25⟩
theorem M_back8 {c : Nat} (h24 : S 24 0 = 0) (h25 : S 25 0 = nI c) (hc : c + 5 ≤ 220) (h : ∀ A : zT, (∀ j : Nat, j ≠ 8 → j ≠ 25 → A j = S j) → A 8 = zba (S 22) (S 8) c 5 → A 25 0 = nI (c + 5) → Q A) : wp_X5_passes_k8 S Q := by
  have key : ∀ (x i : Nat) (A : zT), i + x = 5 → (∀ j : Nat, j ≠ 8 → j ≠ 25 → A j = S j) → A 8 = zba (S 22) (S 8) c i → A 25 0 = nI (c + i) → wpl_X5_passes_k8_2 Q (x + 1) (nI i) A := by
    intro x
    induction x with
    | zero =>
      intro i A hi h1 h2 h3
      have : i = 5 := by omega
      subst this
      exact zt (Int32.le_refl _) (h A h1 h2 h3)
    | succ x ih =>
      intro i A hi h1 h2 h3
      refine zf (nI_ge (b := 5) (by omega) (by omega)) ?_
      rw [h1 24 (by decide) (by decide), h3]
      refine zt h24 ⟨vp_in_nI (by omega) (by decide), vp_in_nI (by omega) (by decide), ?_⟩
      rw [zcl (show i < 1000 by omega), zcl (show c + i < 1000 by omega), h1 22 (by decide) (by decide), h2, zba_S]
      rintro _ rfl
      unfold wpb_X5_passes_k8_42
      rintro _ rfl _ rfl
      rw [show nI i + (1 : Int32) = nI (i + 1) from nI_1 i]
      refine ih (i + 1) _ (by omega) (fun j q1 q2 => ?_) ?_ ?_
      · rw [va_up_ne _ _ q2, va_up_ne _ _ q1]
        exact h1 j q1 q2
      · rw [va_up_ne _ _ (by decide), va_up_self]
      · rw [va_up_self, va_up_ne _ _ (by decide), h3, nI_1, Nat.add_assoc]
  exact ⟨6, key 5 0 S (by omega) (fun _ _ _ => rfl) (zba_0 _ _ _).symm h25⟩
theorem M_keep9 {c : Nat} (h24 : ¬ S 24 0 = 0) (h25 : S 25 0 = nI c) (hc : c + 10 ≤ 220) (h : ∀ A : zT, (∀ j : Nat, j ≠ 22 → j ≠ 25 → A j = S j) → A 22 = zcp (S 9) (S 22) c 10 → A 25 0 = nI (c + 10) → Q A) : wp_X5_passes_k9 S Q := by
  have key : ∀ (x i : Nat) (A : zT), i + x = 10 → (∀ j : Nat, j ≠ 22 → j ≠ 25 → A j = S j) → A 22 = zcp (S 9) (S 22) c i → A 25 0 = nI (c + i) → wpl_X5_passes_k9_2 Q (x + 1) (nI i) A := by
    intro x
    induction x with
    | zero =>
      intro i A hi h1 h2 h3
      have : i = 10 := by omega
      subst this
      exact zt (Int32.le_refl _) (h A h1 h2 h3)
    | succ x ih =>
      intro i A hi h1 h2 h3
      refine zf (nI_ge (b := 10) (by omega) (by omega)) ?_
      rw [h1 24 (by decide) (by decide), h3]
      refine zf h24 ⟨vp_in_nI (by omega) (by decide), vp_in_nI (by omega) (by decide), ?_⟩
      rw [zcl (show i < 1000 by omega), zcl (show c + i < 1000 by omega), h1 9 (by decide) (by decide), h2, zcp_S]
      rintro _ rfl
      unfold wpb_X5_passes_k9_42
      rintro _ rfl _ rfl
      rw [show nI i + (1 : Int32) = nI (i + 1) from nI_1 i]
      refine ih (i + 1) _ (by omega) (fun j q1 q2 => ?_) ?_ ?_
      · rw [va_up_ne _ _ q2, va_up_ne _ _ q1]
        exact h1 j q1 q2
      · rw [va_up_ne _ _ (by decide), va_up_self]
      · rw [va_up_self, va_up_ne _ _ (by decide), h3, nI_1, Nat.add_assoc]
  exact ⟨11, key 10 0 S (by omega) (fun _ _ _ => rfl) (zcp_0 _ _ _).symm h25⟩
theorem M_back9 {c : Nat} (h24 : S 24 0 = 0) (h25 : S 25 0 = nI c) (hc : c + 10 ≤ 220) (h : ∀ A : zT, (∀ j : Nat, j ≠ 9 → j ≠ 25 → A j = S j) → A 9 = zba (S 22) (S 9) c 10 → A 25 0 = nI (c + 10) → Q A) : wp_X5_passes_k9 S Q := by
  have key : ∀ (x i : Nat) (A : zT), i + x = 10 → (∀ j : Nat, j ≠ 9 → j ≠ 25 → A j = S j) → A 9 = zba (S 22) (S 9) c i → A 25 0 = nI (c + i) → wpl_X5_passes_k9_2 Q (x + 1) (nI i) A := by
    intro x
    induction x with
    | zero =>
      intro i A hi h1 h2 h3
      have : i = 10 := by omega
      subst this
      exact zt (Int32.le_refl _) (h A h1 h2 h3)
    | succ x ih =>
      intro i A hi h1 h2 h3
      refine zf (nI_ge (b := 10) (by omega) (by omega)) ?_
      rw [h1 24 (by decide) (by decide), h3]
      refine zt h24 ⟨vp_in_nI (by omega) (by decide), vp_in_nI (by omega) (by decide), ?_⟩
      rw [zcl (show i < 1000 by omega), zcl (show c + i < 1000 by omega), h1 22 (by decide) (by decide), h2, zba_S]
      rintro _ rfl
      unfold wpb_X5_passes_k9_42
      rintro _ rfl _ rfl
      rw [show nI i + (1 : Int32) = nI (i + 1) from nI_1 i]
      refine ih (i + 1) _ (by omega) (fun j q1 q2 => ?_) ?_ ?_
      · rw [va_up_ne _ _ q2, va_up_ne _ _ q1]
        exact h1 j q1 q2
      · rw [va_up_ne _ _ (by decide), va_up_self]
      · rw [va_up_self, va_up_ne _ _ (by decide), h3, nI_1, Nat.add_assoc]
  exact ⟨11, key 10 0 S (by omega) (fun _ _ _ => rfl) (zba_0 _ _ _).symm h25⟩
theorem M_keep10 {c : Nat} (h24 : ¬ S 24 0 = 0) (h25 : S 25 0 = nI c) (hc : c + 10 ≤ 220) (h : ∀ A : zT, (∀ j : Nat, j ≠ 22 → j ≠ 25 → A j = S j) → A 22 = zcp (S 10) (S 22) c 10 → A 25 0 = nI (c + 10) → Q A) : wp_X5_passes_k10 S Q := by
  have key : ∀ (x i : Nat) (A : zT), i + x = 10 → (∀ j : Nat, j ≠ 22 → j ≠ 25 → A j = S j) → A 22 = zcp (S 10) (S 22) c i → A 25 0 = nI (c + i) → wpl_X5_passes_k10_2 Q (x + 1) (nI i) A := by
    intro x
    induction x with
    | zero =>
      intro i A hi h1 h2 h3
      have : i = 10 := by omega
      subst this
      exact zt (Int32.le_refl _) (h A h1 h2 h3)
    | succ x ih =>
      intro i A hi h1 h2 h3
      refine zf (nI_ge (b := 10) (by omega) (by omega)) ?_
      rw [h1 24 (by decide) (by decide), h3]
      refine zf h24 ⟨vp_in_nI (by omega) (by decide), vp_in_nI (by omega) (by decide), ?_⟩
      rw [zcl (show i < 1000 by omega), zcl (show c + i < 1000 by omega), h1 10 (by decide) (by decide), h2, zcp_S]
      rintro _ rfl
      unfold wpb_X5_passes_k10_42
      rintro _ rfl _ rfl
      rw [show nI i + (1 : Int32) = nI (i + 1) from nI_1 i]
      refine ih (i + 1) _ (by omega) (fun j q1 q2 => ?_) ?_ ?_
      · rw [va_up_ne _ _ q2, va_up_ne _ _ q1]
        exact h1 j q1 q2
      · rw [va_up_ne _ _ (by decide), va_up_self]
      · rw [va_up_self, va_up_ne _ _ (by decide), h3, nI_1, Nat.add_assoc]
  exact ⟨11, key 10 0 S (by omega) (fun _ _ _ => rfl) (zcp_0 _ _ _).symm h25⟩
theorem M_back10 {c : Nat} (h24 : S 24 0 = 0) (h25 : S 25 0 = nI c) (hc : c + 10 ≤ 220) (h : ∀ A : zT, (∀ j : Nat, j ≠ 10 → j ≠ 25 → A j = S j) → A 10 = zba (S 22) (S 10) c 10 → A 25 0 = nI (c + 10) → Q A) : wp_X5_passes_k10 S Q := by
  have key : ∀ (x i : Nat) (A : zT), i + x = 10 → (∀ j : Nat, j ≠ 10 → j ≠ 25 → A j = S j) → A 10 = zba (S 22) (S 10) c i → A 25 0 = nI (c + i) → wpl_X5_passes_k10_2 Q (x + 1) (nI i) A := by
    intro x
    induction x with
    | zero =>
      intro i A hi h1 h2 h3
      have : i = 10 := by omega
      subst this
      exact zt (Int32.le_refl _) (h A h1 h2 h3)
    | succ x ih =>
      intro i A hi h1 h2 h3
      refine zf (nI_ge (b := 10) (by omega) (by omega)) ?_
      rw [h1 24 (by decide) (by decide), h3]
      refine zt h24 ⟨vp_in_nI (by omega) (by decide), vp_in_nI (by omega) (by decide), ?_⟩
      rw [zcl (show i < 1000 by omega), zcl (show c + i < 1000 by omega), h1 22 (by decide) (by decide), h2, zba_S]
      rintro _ rfl
      unfold wpb_X5_passes_k10_42
      rintro _ rfl _ rfl
      rw [show nI i + (1 : Int32) = nI (i + 1) from nI_1 i]
      refine ih (i + 1) _ (by omega) (fun j q1 q2 => ?_) ?_ ?_
      · rw [va_up_ne _ _ q2, va_up_ne _ _ q1]
        exact h1 j q1 q2
      · rw [va_up_ne _ _ (by decide), va_up_self]
      · rw [va_up_self, va_up_ne _ _ (by decide), h3, nI_1, Nat.add_assoc]
  exact ⟨11, key 10 0 S (by omega) (fun _ _ _ => rfl) (zba_0 _ _ _).symm h25⟩
theorem M_keep11 {c : Nat} (h24 : ¬ S 24 0 = 0) (h25 : S 25 0 = nI c) (hc : c + 10 ≤ 220) (h : ∀ A : zT, (∀ j : Nat, j ≠ 22 → j ≠ 25 → A j = S j) → A 22 = zcp (S 11) (S 22) c 10 → A 25 0 = nI (c + 10) → Q A) : wp_X5_passes_k11 S Q := by
  have key : ∀ (x i : Nat) (A : zT), i + x = 10 → (∀ j : Nat, j ≠ 22 → j ≠ 25 → A j = S j) → A 22 = zcp (S 11) (S 22) c i → A 25 0 = nI (c + i) → wpl_X5_passes_k11_2 Q (x + 1) (nI i) A := by
    intro x
    induction x with
    | zero =>
      intro i A hi h1 h2 h3
      have : i = 10 := by omega
      subst this
      exact zt (Int32.le_refl _) (h A h1 h2 h3)
    | succ x ih =>
      intro i A hi h1 h2 h3
      refine zf (nI_ge (b := 10) (by omega) (by omega)) ?_
      rw [h1 24 (by decide) (by decide), h3]
      refine zf h24 ⟨vp_in_nI (by omega) (by decide), vp_in_nI (by omega) (by decide), ?_⟩
      rw [zcl (show i < 1000 by omega), zcl (show c + i < 1000 by omega), h1 11 (by decide) (by decide), h2, zcp_S]
      rintro _ rfl
      unfold wpb_X5_passes_k11_42
      rintro _ rfl _ rfl
      rw [show nI i + (1 : Int32) = nI (i + 1) from nI_1 i]
      refine ih (i + 1) _ (by omega) (fun j q1 q2 => ?_) ?_ ?_
      · rw [va_up_ne _ _ q2, va_up_ne _ _ q1]
        exact h1 j q1 q2
      · rw [va_up_ne _ _ (by decide), va_up_self]
      · rw [va_up_self, va_up_ne _ _ (by decide), h3, nI_1, Nat.add_assoc]
  exact ⟨11, key 10 0 S (by omega) (fun _ _ _ => rfl) (zcp_0 _ _ _).symm h25⟩
theorem M_back11 {c : Nat} (h24 : S 24 0 = 0) (h25 : S 25 0 = nI c) (hc : c + 10 ≤ 220) (h : ∀ A : zT, (∀ j : Nat, j ≠ 11 → j ≠ 25 → A j = S j) → A 11 = zba (S 22) (S 11) c 10 → A 25 0 = nI (c + 10) → Q A) : wp_X5_passes_k11 S Q := by
  have key : ∀ (x i : Nat) (A : zT), i + x = 10 → (∀ j : Nat, j ≠ 11 → j ≠ 25 → A j = S j) → A 11 = zba (S 22) (S 11) c i → A 25 0 = nI (c + i) → wpl_X5_passes_k11_2 Q (x + 1) (nI i) A := by
    intro x
    induction x with
    | zero =>
      intro i A hi h1 h2 h3
      have : i = 10 := by omega
      subst this
      exact zt (Int32.le_refl _) (h A h1 h2 h3)
    | succ x ih =>
      intro i A hi h1 h2 h3
      refine zf (nI_ge (b := 10) (by omega) (by omega)) ?_
      rw [h1 24 (by decide) (by decide), h3]
      refine zt h24 ⟨vp_in_nI (by omega) (by decide), vp_in_nI (by omega) (by decide), ?_⟩
      rw [zcl (show i < 1000 by omega), zcl (show c + i < 1000 by omega), h1 22 (by decide) (by decide), h2, zba_S]
      rintro _ rfl
      unfold wpb_X5_passes_k11_42
      rintro _ rfl _ rfl
      rw [show nI i + (1 : Int32) = nI (i + 1) from nI_1 i]
      refine ih (i + 1) _ (by omega) (fun j q1 q2 => ?_) ?_ ?_
      · rw [va_up_ne _ _ q2, va_up_ne _ _ q1]
        exact h1 j q1 q2
      · rw [va_up_ne _ _ (by decide), va_up_self]
      · rw [va_up_self, va_up_ne _ _ (by decide), h3, nI_1, Nat.add_assoc]
  exact ⟨11, key 10 0 S (by omega) (fun _ _ _ => rfl) (zba_0 _ _ _).symm h25⟩
theorem M_keep12 {c : Nat} (h24 : ¬ S 24 0 = 0) (h25 : S 25 0 = nI c) (hc : c + 10 ≤ 220) (h : ∀ A : zT, (∀ j : Nat, j ≠ 22 → j ≠ 25 → A j = S j) → A 22 = zcp (S 12) (S 22) c 10 → A 25 0 = nI (c + 10) → Q A) : wp_X5_passes_k12 S Q := by
  have key : ∀ (x i : Nat) (A : zT), i + x = 10 → (∀ j : Nat, j ≠ 22 → j ≠ 25 → A j = S j) → A 22 = zcp (S 12) (S 22) c i → A 25 0 = nI (c + i) → wpl_X5_passes_k12_2 Q (x + 1) (nI i) A := by
    intro x
    induction x with
    | zero =>
      intro i A hi h1 h2 h3
      have : i = 10 := by omega
      subst this
      exact zt (Int32.le_refl _) (h A h1 h2 h3)
    | succ x ih =>
      intro i A hi h1 h2 h3
      refine zf (nI_ge (b := 10) (by omega) (by omega)) ?_
      rw [h1 24 (by decide) (by decide), h3]
      refine zf h24 ⟨vp_in_nI (by omega) (by decide), vp_in_nI (by omega) (by decide), ?_⟩
      rw [zcl (show i < 1000 by omega), zcl (show c + i < 1000 by omega), h1 12 (by decide) (by decide), h2, zcp_S]
      rintro _ rfl
      unfold wpb_X5_passes_k12_42
      rintro _ rfl _ rfl
      rw [show nI i + (1 : Int32) = nI (i + 1) from nI_1 i]
      refine ih (i + 1) _ (by omega) (fun j q1 q2 => ?_) ?_ ?_
      · rw [va_up_ne _ _ q2, va_up_ne _ _ q1]
        exact h1 j q1 q2
      · rw [va_up_ne _ _ (by decide), va_up_self]
      · rw [va_up_self, va_up_ne _ _ (by decide), h3, nI_1, Nat.add_assoc]
  exact ⟨11, key 10 0 S (by omega) (fun _ _ _ => rfl) (zcp_0 _ _ _).symm h25⟩
theorem M_back12 {c : Nat} (h24 : S 24 0 = 0) (h25 : S 25 0 = nI c) (hc : c + 10 ≤ 220) (h : ∀ A : zT, (∀ j : Nat, j ≠ 12 → j ≠ 25 → A j = S j) → A 12 = zba (S 22) (S 12) c 10 → A 25 0 = nI (c + 10) → Q A) : wp_X5_passes_k12 S Q := by
  have key : ∀ (x i : Nat) (A : zT), i + x = 10 → (∀ j : Nat, j ≠ 12 → j ≠ 25 → A j = S j) → A 12 = zba (S 22) (S 12) c i → A 25 0 = nI (c + i) → wpl_X5_passes_k12_2 Q (x + 1) (nI i) A := by
    intro x
    induction x with
    | zero =>
      intro i A hi h1 h2 h3
      have : i = 10 := by omega
      subst this
      exact zt (Int32.le_refl _) (h A h1 h2 h3)
    | succ x ih =>
      intro i A hi h1 h2 h3
      refine zf (nI_ge (b := 10) (by omega) (by omega)) ?_
      rw [h1 24 (by decide) (by decide), h3]
      refine zt h24 ⟨vp_in_nI (by omega) (by decide), vp_in_nI (by omega) (by decide), ?_⟩
      rw [zcl (show i < 1000 by omega), zcl (show c + i < 1000 by omega), h1 22 (by decide) (by decide), h2, zba_S]
      rintro _ rfl
      unfold wpb_X5_passes_k12_42
      rintro _ rfl _ rfl
      rw [show nI i + (1 : Int32) = nI (i + 1) from nI_1 i]
      refine ih (i + 1) _ (by omega) (fun j q1 q2 => ?_) ?_ ?_
      · rw [va_up_ne _ _ q2, va_up_ne _ _ q1]
        exact h1 j q1 q2
      · rw [va_up_ne _ _ (by decide), va_up_self]
      · rw [va_up_self, va_up_ne _ _ (by decide), h3, nI_1, Nat.add_assoc]
  exact ⟨11, key 10 0 S (by omega) (fun _ _ _ => rfl) (zba_0 _ _ _).symm h25⟩
end PASS

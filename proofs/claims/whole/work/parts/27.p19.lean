/-! rows are kept and put back -/
/-- the first n of f put into g from place c on -/
def zcp (f g : Nat → Int32) (c n : Nat) : Nat → Int32 := fun p => if c ≤ p ∧ p < c + n then f (p - c) else g p
/-- the first n of g become those of f from place c on -/
def zba (f g : Nat → Int32) (c n : Nat) : Nat → Int32 := fun p => if p < n then f (c + p) else g p
theorem zcp_0 (f g : Nat → Int32) (c : Nat) : zcp f g c 0 = g := by
  funext p
  show (if c ≤ p ∧ p < c + 0 then f (p - c) else g p) = g p
  rw [if_neg (by omega)]
theorem zcp_S (f g : Nat → Int32) (c n : Nat) : upd (zcp f g c n) (c + n) (f n) = zcp f g c (n + 1) := by
  funext p
  by_cases z : p = c + n
  · subst z
    rw [pk_us]
    show f n = (if c ≤ c + n ∧ c + n < c + (n + 1) then f (c + n - c) else g (c + n))
    rw [if_pos (by omega), show c + n - c = n by omega]
  · rw [pk_un z]
    show (if c ≤ p ∧ p < c + n then f (p - c) else g p) = (if c ≤ p ∧ p < c + (n + 1) then f (p - c) else g p)
    by_cases y : c ≤ p ∧ p < c + n
    · rw [if_pos y, if_pos (by omega)]
    · rw [if_neg y, if_neg (by omega)]
theorem zba_0 (f g : Nat → Int32) (c : Nat) : zba f g c 0 = g := by
  funext p
  show (if p < 0 then f (c + p) else g p) = g p
  rw [if_neg (by omega)]
theorem zba_S (f g : Nat → Int32) (c n : Nat) : upd (zba f g c n) n (f (c + n)) = zba f g c (n + 1) := by
  funext p
  by_cases z : p = n
  · subst z
    rw [pk_us]
    show f (c + p) = (if p < p + 1 then f (c + p) else g p)
    rw [if_pos (by omega)]
  · rw [pk_un z]
    show (if p < n then f (c + p) else g p) = (if p < n + 1 then f (c + p) else g p)
    by_cases y : p < n
    · rw [if_pos y, if_pos (by omega)]
    · rw [if_neg y, if_neg (by omega)]
def zK1 (S : zT) (k c n : Nat) : zT := va_up (va_up S 22 (zcp (S k) (S 22) c n)) 25 (fun _ => nI (c + n))
def zB1 (S : zT) (k c n : Nat) : zT := va_up (va_up S k (zba (S 22) (S k) c n)) 25 (fun _ => nI (c + n))
section PASS
variable {S : zT} {Q : zT → Prop}
theorem M_keep1 {c : Nat} (h24 : S 24 0 = 1) (h25 : S 25 0 = nI c) (hc : c + 8 ≤ 220) (h : Q (zK1 S 1 c 8)) : wp_X5_passes_k1 S Q := by
  have key : ∀ (x i : Nat) (A : zT), i + x = 8 → A = va_up (va_up S 22 (zcp (S 1) (S 22) c i)) 25 (fun _ => nI (c + i)) → wpl_X5_passes_k1_2 Q (x + 1) (nI i) A := by
    intro x
    induction x with
    | zero =>
      intro i A hi hA
      have : i = 8 := by omega
      subst this
      refine zt (Int32.le_refl _) ?_
      rw [hA]
      exact h
    | succ x ih =>
      intro i A hi hA
      have g24 : A 24 0 = 1 := by rw [hA]; exact h24
      have g25 : A 25 0 = nI (c + i) := by rw [hA]; rfl
      have gk : A 1 = S 1 := by rw [hA]; rfl
      have g22 : A 22 = zcp (S 1) (S 22) c i := by rw [hA]; rfl
      refine zf (nI_ge (b := 8) (by omega) (by omega)) ?_
      rw [g24, g25]
      refine zf (by decide) ⟨vp_in_nI (by omega) (by decide), vp_in_nI (by omega) (by decide), ?_⟩
      rw [zcl (show i < 1000 by omega), zcl (show c + i < 1000 by omega), gk, g22, zcp_S]
      intro A1 e1
      unfold wpb_X5_passes_k1_42
      intro A2 e2
      rintro _ rfl
      rw [show nI i + (1 : Int32) = nI (i + 1) from nI_1 i]
      refine ih (i + 1) A2 (by omega) ?_
      have h1 : A1 25 0 = nI (c + i) := by rw [e1]; exact g25
      rw [e2, h1, nI_1, e1, hA]
      funext j
      unfold va_up
      by_cases z : j = 25
      · rw [if_pos z, if_pos z, show c + (i + 1) = c + i + 1 by omega]
      · rw [if_neg z, if_neg z]
        by_cases z2 : j = 22
        · rw [if_pos z2, if_pos z2]
        · rw [if_neg z2, if_neg z2, if_neg z, if_neg z2]
  refine ⟨9, key 8 0 S (by omega) ?_⟩
  rw [zcp_0]
  funext j
  unfold va_up
  by_cases z : j = 25
  · rw [if_pos z, z]
    funext p
    sorry
  · rw [if_neg z]
    by_cases z2 : j = 22
    · rw [if_pos z2, z2]
    · rw [if_neg z2]
end PASS

/-! set -/
section OK13
variable {E N F IT IF L M G Mi : zT}
theorem set1 {k : Nat} {v lo hi : Int32} (hI : Inv E N F IT IF L M) (hk : k < 4) (el : zLs k = lo) (eh : zMo k = hi) (hb : ∀ b : Nat, ¬ nI b < lo → nI b ≤ hi → b < 1000 → (b ≤ 9 ∨ (k = 3 ∧ b ≤ 40)) ∧ (k = 0 → 1 ≤ b)) (h0 : ¬ lo < 0) (h4 : hi ≤ 40) :
    (lo ≤ v → v ≤ hi → wp_X3_change (nI k) v N (fun r N' => wp_X5_set (nI k) v M (fun r' M' => r' = r ∧ Inv E N' F IT IF L M'))) ∧
    (lo ≤ v → ¬ v ≤ hi → wp_X4_refuse (-6) E (fun r E' => wp_X5_set (nI k) v M (fun r' M' => r' = r ∧ Inv E' N F IT IF L M'))) ∧
    (¬ lo ≤ v → wp_X4_refuse (-4) E (fun r E' => wp_X5_set (nI k) v M (fun r' M' => r' = r ∧ Inv E' N F IT IF L M'))) := by
  have R := hI.1
  have hin : ∀ {Q : Int32 → zT → Prop}, wp_X5_bound v lo hi (fun r27 : Int32 => ((r27 = 0 → (vp_in (nI k) 5 ∧ (∀ y47 : Int32, y47 = (M 8 k) → (vp_in (nI k) 5 ∧ (∀ S_55 : zT, S_55 = (va_up M 8 (upd (M 8) k v)) → (Q y47 S_55)))))) ∧ (¬ r27 = 0 → (wp_X5_no r27 M (fun (r37 : Int32) (S_37 : zT) => (Q r37 S_37)))))) → wp_X5_set (nI k) v M Q := by
    intro Q h
    refine I1 (nI_pos (by omega)) (nI_nlt (a := 3) (b := k) (by omega) (by omega)) (zf (by decide) ⟨vp_in_nI (by omega) (by decide), vp_in_nI (by omega) (by decide), ?_⟩)
    rw [zcl (by omega), el, eh]
    exact h
  refine ⟨fun c1 c2 => R_chg rfl (by omega) (hin (B0 c1 c2 (zt rfl ⟨vp_in_nI (by omega) (by decide), ?_⟩))), fun c1 c2 => RF 5 (by decide) rfl (hin (B6 c1 c2 (zf (by decide) (MN 5 (by decide) rfl ⟨rfl, Inv_ref hI 5 (by decide)⟩)))), fun c1 => RF 3 (by decide) rfl (hin (B4 c1 (zf (by decide) (MN 3 (by decide) rfl ⟨rfl, Inv_ref hI 3 (by decide)⟩))))⟩
  rintro _ rfl
  refine ⟨vp_in_nI (by omega) (by decide), ?_⟩
  rintro _ rfl
  have v0 : ¬ v < 0 := by
    rw [zlt] at h0 ⊢
    rw [zle] at c1
    omega
  obtain ⟨b, hb1, rfl⟩ := nI_of2 (x := v) (M := 40) (n := 40) rfl v0 (Int32.le_trans c2 h4)
  obtain ⟨g1, g2⟩ := hb b (by rw [zlt]; rw [zle] at c1; omega) c2 (by omega)
  exact ⟨R.1 k (by omega), Inv_side hI (by omega) g1 g2 (fun z => by omega)⟩
theorem ok_set {i v : Int32} (hI : Inv E N F IT IF L M) : wp_X4_set i v E N (fun r E' N' => wp_X5_set i v M (fun r' M' => r' = r ∧ Inv E' N' F IT IF L M')) := by
  have bad : (i < 0 ∨ 3 < i) → wpb_X4_set_9 i v (fun r E' N' => wp_X5_set i v M (fun r' M' => r' = r ∧ Inv E' N' F IT IF L M')) E N := by
    intro h
    unfold wpb_X4_set_9
    exact RF 1 (by decide) rfl (I0 h (zt rfl (MN 1 (by decide) rfl ⟨rfl, Inv_ref hI 1 (by decide)⟩)))
  refine ⟨fun c => bad (Or.inl c), fun c => ⟨fun c2 => ?_, fun c2 => bad (Or.inr (znle.mp c2))⟩⟩
  obtain ⟨k, hk, rfl⟩ := nI_of2 (x := i) (M := 3) (n := 3) rfl c c2
  have le : ∀ (b h : Nat), b < 1000 → h < 1000 → nI b ≤ nI h → b ≤ h := fun b h q1 q2 q => (nI_leI (by omega) (by omega)).mp q
  have go : ∀ (lo hi : Int32), ((lo ≤ v → v ≤ hi → wp_X3_change (nI k) v N (fun r N' => wp_X5_set (nI k) v M (fun r' M' => r' = r ∧ Inv E N' F IT IF L M'))) ∧
    (lo ≤ v → ¬ v ≤ hi → wp_X4_refuse (-6) E (fun r E' => wp_X5_set (nI k) v M (fun r' M' => r' = r ∧ Inv E' N F IT IF L M'))) ∧
    (¬ lo ≤ v → wp_X4_refuse (-4) E (fun r E' => wp_X5_set (nI k) v M (fun r' M' => r' = r ∧ Inv E' N F IT IF L M')))) → (nI k = 3 → hi = 40) → (¬ nI k = 3 → hi = 9) → wpb_X4_set_26 (nI k) v (fun r E' N' => wp_X5_set (nI k) v M (fun r' M' => r' = r ∧ Inv E' N' F IT IF L M')) v lo E N := by
    rintro lo hi ⟨g1, g2, g3⟩ e1 e2
    unfold wpb_X4_set_26
    refine ⟨fun d1 => ⟨fun d2 => ?_, fun d2 => ?_⟩, fun d1 => g3 d1⟩
    · have := e1 d2
      subst this
      unfold wpb_X4_set_49
      exact ⟨fun d3 => g1 d1 d3, fun d3 => g2 d1 d3⟩
    · have := e2 d2
      subst this
      unfold wpb_X4_set_49
      exact ⟨fun d3 => g1 d1 d3, fun d3 => g2 d1 d3⟩
  rcases (show k = 0 ∨ k = 1 ∨ k = 2 ∨ k = 3 by omega) with z | z | z | z
  · subst z
    refine zt rfl (go 1 9 (set1 hI (by decide) rfl rfl (fun b q1 q2 q3 => ⟨Or.inl (le b 9 q3 (by decide) q2), fun _ => ?_⟩) (by decide) (by decide)) (fun q => absurd q (by decide)) (fun _ => rfl))
    rcases Nat.eq_zero_or_pos b with y | y
    · subst y; exact absurd (by decide) q1
    · exact y
  · subst z
    exact zf (by decide) (go 0 9 (set1 hI (by decide) rfl rfl (fun b q1 q2 q3 => ⟨Or.inl (le b 9 q3 (by decide) q2), fun q => absurd q (by decide)⟩) (by decide) (by decide)) (fun q => absurd q (by decide)) (fun _ => rfl))
  · subst z
    exact zf (by decide) (go 0 9 (set1 hI (by decide) rfl rfl (fun b q1 q2 q3 => ⟨Or.inl (le b 9 q3 (by decide) q2), fun q => absurd q (by decide)⟩) (by decide) (by decide)) (fun q => absurd q (by decide)) (fun _ => rfl))
  · subst z
    exact zf (by decide) (go 0 40 (set1 hI (by decide) rfl rfl (fun b q1 q2 q3 => ⟨Or.inr ⟨rfl, le b 40 q3 (by decide) q2⟩, fun q => absurd q (by decide)⟩) (by decide) (by decide)) (fun _ => rfl) (fun q => absurd rfl q))
end OK13

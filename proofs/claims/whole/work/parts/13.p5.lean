/-! the reference's small methods, over a told door that its rows show -/
def TR (T M : zT) : Prop := (∀ k : Nat, k < 5 → M 8 k = T 0 k) ∧ (∀ w : Nat, w < 8 → M 1 w = tv T w 0 ∧ M 2 w = tv T w 1 ∧ M 3 w = tv T w 2 ∧ M 4 w = tv T w 3 ∧ M 5 w = tv T w 4 ∧ M 6 w = tv T w 5 ∧ M 7 w = tv T w 6) ∧ M 13 0 = T 2 0
theorem zv8 {w : Nat} (h : w < 8) : vp_in (nI w) 8 := vp_in_nI h (by decide)
theorem M_up {a b : Int32} {Q : Int32 → Prop} (hb : 1 ≤ b) (h : Q (pDiv a b)) : wp_X5_upBy a b Q := by
  unfold pDiv at h
  rw [if_pos hb] at h
  exact ⟨fun e => by subst e; exact absurd hb (by decide), h⟩
section MM
variable {T M : zT} {n w x : Nat} {Q : Int32 → Prop}
theorem M_there (R : TR T M) (hV : zV T n) (hw : w < n) (h : Q (sThere T w)) : wp_X5_thereOf M (nI w) Q := by
  have h8 := hV.2.1
  have hw8 : w < 8 := by omega
  obtain ⟨-, -, -, hW⟩ := hV
  obtain ⟨a, ha, -, h1, h2, h2', h3, h3', -⟩ := hW w hw
  obtain ⟨-, r, -⟩ := R
  obtain ⟨r0, r1, r2, r3, r4, r5, r6⟩ := r w hw8
  refine ⟨zv8 hw8, zv8 hw8, zv8 hw8, ?_⟩
  rw [zcl (by omega), r1, r2, r3]
  refine M_up ?_ h
  rw [ha 3 (by decide)]
  exact (nI_leI (a := 1) (by omega) (by omega)).mpr h3
theorem M_yh (R : TR T M) (hV : zV T n) (hw : w < n) (h : Q (sYH T w)) : wp_X5_heldYards M (nI w) Q := by
  have h8 := hV.2.1
  have hw8 : w < 8 := by omega
  obtain ⟨-, -, -, hW⟩ := hV
  obtain ⟨a, ha, -, h1, h2, h2', h3, h3', h4, -⟩ := hW w hw
  obtain ⟨-, r, -⟩ := R
  obtain ⟨r0, r1, r2, r3, r4, r5, r6⟩ := r w hw8
  unfold sYH at h
  refine ⟨zv8 hw8, ?_⟩
  rw [zcl (by omega), r0, r3, r4]
  refine ⟨fun c => ⟨zv8 hw8, ?_⟩, fun c => ⟨fun c2 => ⟨zv8 hw8, ?_⟩, fun c2 => ⟨fun c3 => ⟨zv8 hw8, zv8 hw8, fun c4 => ?_, fun c4 => ⟨zv8 hw8, zv8 hw8, ?_⟩⟩, fun c3 => ⟨fun c4 => ⟨zv8 hw8, ?_⟩, fun c4 => ⟨fun c5 => ⟨zv8 hw8, ?_⟩, fun c5 => ⟨zv8 hw8, ?_⟩⟩⟩⟩⟩⟩
  · rw [if_pos c] at h; exact h
  · rw [if_neg c, if_pos c2] at h; exact h
  · rw [if_neg c, if_neg c2, if_pos c3] at h
    rw [ha 3 (by decide), ha 4 (by decide)] at h c4
    rw [nI_leI (by omega) (by omega)] at c4
    rw [if_neg] at h
    · exact h
    · intro q
      rcases Nat.lt_or_ge (a 3) (a 4) with z | z
      · have := pk_sneg (a := a 3) (b := a 4) (by omega) z
        rw [zlt] at q this
        have e1 : (1 : Int32).toInt = 1 := rfl
        have e0 : (0 : Int32).toInt = 0 := rfl
        omega
      · rw [pk_sub z] at q
        have := (nI_ltI (a := 1) (by omega) (by omega)).mp q
        omega
  · rw [if_neg c, if_neg c2, if_pos c3] at h
    rw [ha 3 (by decide), ha 4 (by decide)] at h c4 ⊢
    rw [nI_leI (by omega) (by omega)] at c4
    rw [pk_sub (by omega)] at h ⊢
    by_cases q : (1 : Int32) < nI (a 3 - a 4)
    · rw [if_pos q] at h; exact h
    · rw [if_neg q] at h
      have q' : ¬ 1 < a 3 - a 4 := fun z => q ((nI_ltI (a := 1) (by omega) (by omega)).mpr z)
      rw [show a 3 - a 4 = 1 by omega]
      exact h
  · rw [if_neg c, if_neg c2, if_neg c3, if_pos c4] at h; exact h
  · rw [if_neg c, if_neg c2, if_neg c3, if_neg c4, if_pos c5] at h; exact h
  · rw [if_neg c, if_neg c2, if_neg c3, if_neg c4, if_neg c5] at h; exact h
theorem M_far (R : TR T M) (hV : zV T n) (hw : w < n) (hx : x < n) {held : Int32} (hh : held = 0 ∨ held = 1) (h : Q (sUp T w x held)) : wp_X5_farOf M (nI w) (nI x) held Q := by
  have h8 := hV.2.1
  have hw8 : w < 8 := by omega
  have hx8 : x < 8 := by omega
  obtain ⟨-, -, ⟨d, hd, d0, d0', d1, d2, d3, d4⟩, hW⟩ := hV
  obtain ⟨a, ha, -⟩ := hW w hw
  obtain ⟨b, hb, -, -, -, -, -, -, b4, b5, b6⟩ := hW x hx
  obtain ⟨rd, r, -⟩ := R
  obtain ⟨r0, r1, r2, r3, r4, r5, r6⟩ := r w hw8
  obtain ⟨p0, p1, p2, p3, p4, p5, p6⟩ := r x hx8
  have c3 : ((3 : Int32)).toNatClampNeg = 3 := rfl
  have c4 : ((4 : Int32)).toNatClampNeg = 4 := rfl
  refine ⟨vp_in_nI (n := 3) (by decide) (by decide), ?_⟩
  rw [c3, c4, rd 3 (by decide), rd 4 (by decide)]
  rintro _ rfl
  refine ⟨zv8 hx8, ?_⟩
  rintro _ rfl
  refine ⟨vp_in_nI (n := 4) (by decide) (by decide), ?_⟩
  have tail : ∀ v : Int32, (tv T w 0 = 5 → Q 0) → (¬ tv T w 0 = 5 → (0 ≤ v → Q v) ∧ (¬ 0 ≤ v → Q 0)) → wpb_X5_farOf_142 M (nI w) (nI x) held Q v := by
    intro v h1 h2
    refine ⟨zv8 hw8, ?_⟩
    rw [zcl (by omega), r0]
    exact ⟨fun c => h1 c, fun c => h2 c⟩
  have hk5 : tv T w 0 = 5 → Q 0 := by
    intro c
    unfold sUp at h
    rw [if_pos c] at h
    exact h
  have pos : ∀ m : Nat, m < 1000 → (0 : Int32) ≤ nI m := fun m hm => nI_pos' (by omega)
  have e3 := hd 3 (by decide)
  rw [zcl (by omega), p4, p5, p6]
  have hl : pFilm 2 (T 0 3) (tv T x 5) 0 = T 0 3 + 4 * tv T x 5 := by
    unfold pFilm
    rw [if_neg (by decide), if_pos rfl, hb 5 (by decide), e3]
    rcases (show b 5 = 0 ∨ b 5 = 1 by omega) with e | e
    · rw [e, if_neg (by decide), show (4 : Int32) * nI 0 = nI 0 from rfl, nI_add]; rfl
    · rw [e, if_pos (by decide)]; rfl
  have el : T 0 3 + 4 * tv T x 5 = nI (d 3 + 4 * b 5) := by
    rw [e3, hb 5 (by decide), show (4 : Int32) = nI 4 from rfl, pk_mul, nI_add]
  have eb : T 0 3 + 2 * tv T x 4 = nI (d 3 + 2 * b 4) := by
    rw [e3, hb 4 (by decide), show (2 : Int32) = nI 2 from rfl, pk_mul, nI_add]
  have hs : ¬ tv T w 0 = 5 → Q (if T 0 4 = 4 then 40 else if T 0 4 = 5 then (if held = 0 then 0 else T 0 3) else if T 0 4 = 6 then
    (if 0 < pFilm 2 (T 0 3) (tv T x 5) 0 + tv T x 6 - tv T w 6 then pFilm 2 (T 0 3) (tv T x 5) 0 + tv T x 6 - tv T w 6 else 0)
    else pFilm (T 0 4) (T 0 3) (tv T x 5) (tv T x 4)) := by
    intro c
    unfold sUp at h
    rw [if_neg c] at h
    exact h
  refine ⟨fun k1 => tail _ hk5 (fun c => ?_), fun k1 => ⟨fun k2 => tail _ hk5 (fun c => ?_), fun k2 => ⟨fun k3 => ⟨zv8 hx8, ?_⟩, fun k3 => ⟨fun k4 => tail _ hk5 (fun c => ?_), fun k4 => ⟨fun k5 => ⟨fun k => ?_, fun k => ?_⟩, fun k5 => ⟨fun k6 => ⟨zv8 hx8, zv8 hw8, ?_⟩, fun k6 => tail _ hk5 (fun c => ?_)⟩⟩⟩⟩⟩⟩
  · have hs := hs c
    rw [k1] at hs
    rw [e3]
    refine zt (pos _ (by omega)) ?_
    rw [← e3]
    exact hs
  · have hs := hs c
    rw [k2] at hs
    rw [el]
    refine zt (pos _ (by omega)) ?_
    rw [← el]
    rw [if_neg (by decide), if_neg (by decide), if_neg (by decide)] at hs
    have e : pFilm 2 (T 0 3) (tv T x 5) (tv T x 4) = pFilm 2 (T 0 3) (tv T x 5) 0 := rfl
    rw [e, hl] at hs
    exact hs
  · rintro _ rfl
    refine tail _ hk5 (fun c => ?_)
    have hs := hs c
    rw [k3] at hs
    rw [eb]
    refine zt (pos _ (by omega)) ?_
    rw [← eb]
    exact hs
  · have hs := hs c
    rw [k4] at hs
    exact zt (by decide) hs
  · unfold wpb_X5_farOf_116
    refine tail _ hk5 (fun c => ?_)
    have hs := hs c
    rw [k5, k] at hs
    rw [e3]
    refine zt (pos _ (by omega)) ?_
    rw [← e3]
    exact hs
  · unfold wpb_X5_farOf_116
    refine tail _ hk5 (fun c => ?_)
    have hs := hs c
    rcases hh with hh | hh
    · rw [k5, hh] at hs
      exact zt (by decide) hs
    · exact absurd hh k
  · rw [zcl (by omega), r6]
    rintro _ rfl
    refine tail _ hk5 (fun c => ?_)
    have hs := hs c
    rw [k6, hl] at hs
    rw [if_neg (by decide), if_neg (by decide), if_pos rfl] at hs
    refine ⟨fun q => ?_, fun q => ?_⟩
    · by_cases q2 : 0 < T 0 3 + 4 * tv T x 5 + tv T x 6 - tv T w 6
      · rw [if_pos q2] at hs; exact hs
      · rw [if_neg q2] at hs
        have e : T 0 3 + 4 * tv T x 5 + tv T x 6 - tv T w 6 = 0 := by
          rw [zlt] at q2
          rw [zle] at q
          rw [zeq]
          omega
        rw [e]
        exact hs
    · rw [if_neg] at hs
      · exact hs
      · intro q2
        rw [zlt] at q2
        rw [zle] at q
        omega
  · have hs := hs c
    rw [if_neg k4, if_neg k5, if_neg k6] at hs
    unfold pFilm at hs
    rw [if_neg k1, if_neg k2, if_neg k3] at hs
    exact zt (by decide) hs
theorem M_sec (R : TR T M) (hV : zV T n) (hw : w < n) (hx : x < n) {t : Nat} (ht : t < 10000) (h28 : M 28 w = nI t) (h : Q (sSec T (nI t) w x (if M 31 w < 0 then 0 else 1))) : wp_X5_holdsFor M (nI w) (nI x) Q := by
  have h8 := hV.2.1
  have hw8 : w < 8 := by omega
  have hx8 : x < 8 := by omega
  have hV' := hV
  obtain ⟨-, -, -, hW⟩ := hV
  obtain ⟨b, hb, b0, b1, b2, b2', b3, b3', -⟩ := hW x hx
  have R' := R
  obtain ⟨rd, r, -⟩ := R
  obtain ⟨r0, r1, r2, r3, r4, r5, r6⟩ := r w hw8
  obtain ⟨p0, p1, p2, p3, p4, p5, p6⟩ := r x hx8
  have e0 : (0 : Int32).toInt = 0 := rfl
  refine ⟨zv8 hw8, zv8 hx8, ?_⟩
  rw [zcl (show w < 1000 by omega), zcl (show x < 1000 by omega), h28, p1, p2, p3]
  rintro _ rfl
  refine ⟨zv8 hx8, zv8 hx8, ?_⟩
  rintro _ rfl
  unfold sSec at h
  have eg : tv T x 2 - tv T x 3 * (nI t - tv T x 1) = sGo T x (nI t) := rfl
  rw [eg]
  have e1 := hb 1 (by decide)
  by_cases c1 : nI t < tv T x 1
  · rw [if_pos c1] at h
    refine zt ?_ h
    rw [e1] at c1 ⊢
    exact pk_sneg (by omega) ((nI_ltI (by omega) (by omega)).mp c1)
  · rw [if_neg c1] at h
    have c1' := c1
    rw [e1, nI_ltI (by omega) (by omega)] at c1'
    refine zf ?_ ?_
    · rw [e1, pk_sub (by omega)]; exact nI_pos (by omega)
    by_cases c2 : 0 < sGo T x (nI t)
    · rw [if_pos c2] at h
      refine zf (znle.mpr c2) ⟨zv8 hw8, ?_⟩
      have tail : ∀ hd : Int32, hd = (if M 31 w < 0 then 0 else 1) → wpb_X5_holdsFor_59 M (nI w) (nI x) Q (sGo T x (nI t)) (sGo T x (nI t)) (nI w) (nI x) hd := by
        intro hd ehd
        have hh : hd = 0 ∨ hd = 1 := by
          rw [ehd]
          split
          · exact Or.inl rfl
          · exact Or.inr rfl
        rw [← ehd] at h
        refine M_far R' hV' hw hx hh ⟨fun c3 => ?_, fun c3 => ⟨zv8 hw8, ?_⟩⟩
        · rw [if_neg (znle.mpr c3)] at h; exact h
        · rw [if_pos (znl.mp c3)] at h
          rw [zcl (show w < 1000 by omega), r0]
          refine zf ?_ (M_yh R' hV' hx (M_up ?_ h))
          · intro q
            apply c3
            unfold sUp
            rw [if_pos q]
            exact c2
          · obtain ⟨y, ey, y1, y2⟩ := V_yh hV' hx
            rw [ey]
            exact (nI_leI (a := 1) (by omega) (by omega)).mpr y1
      refine ⟨fun q => tail 0 (by rw [if_pos q]), fun q => tail 1 (by rw [if_neg q])⟩
    · rw [if_neg c2] at h
      exact zt (znl.mp c2) h
end MM

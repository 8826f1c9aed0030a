/-! letters, numbers, films -/
theorem B4 {v lo hi : Int32} {Q : Int32 → Prop} (h : ¬ lo ≤ v) (q : Q (-4)) : wp_X5_bound v lo hi Q := zf h q
theorem B6 {v lo hi : Int32} {Q : Int32 → Prop} (h : lo ≤ v) (h2 : ¬ v ≤ hi) (q : Q (-6)) : wp_X5_bound v lo hi Q := zt h (zf h2 q)
theorem B0 {v lo hi : Int32} {Q : Int32 → Prop} (h : lo ≤ v) (h2 : v ≤ hi) (q : Q 0) : wp_X5_bound v lo hi Q := zt h (zt h2 q)
theorem I0 {v lo hi : Int32} {Q : Int32 → Prop} (h : v < lo ∨ hi < v) (q : Q 0) : wp_X5_isIn v lo hi Q := by
  refine ⟨fun _ => q, fun c => ⟨fun _ => q, fun c2 => ?_⟩⟩
  rcases h with h | h
  · exact absurd h c
  · exact absurd h c2
theorem I1 {v lo hi : Int32} {Q : Int32 → Prop} (h : ¬ v < lo) (h2 : ¬ hi < v) (q : Q 1) : wp_X5_isIn v lo hi Q := zf h (zf h2 q)
theorem n0 : ∀ k, k < 6 → ¬ (-(nI (k + 1)) = (0 : Int32)) := by decide +kernel
section OK3
variable {E N F IT IF L M G Mi : zT}
theorem ok_letter {c : Int32} (hI : Inv E N F IT IF L M) : wp_X4_letter c E L (fun r E' L' => wp_X5_letter c M (fun r' M' => r' = r ∧ Inv E' N F IT IF L' M')) := by
  have hI' := hI
  obtain ⟨h1, h2, h3, h4, ⟨hl, h19⟩, ⟨cnt, hc, h80, hv⟩, h7, h8⟩ := hI
  have g19 : M 19 0 = nI cnt := by rw [← h19]; exact hc
  -- refused
  have rf6 : ∀ b : Int32, b = -6 → wpb_X5_letter_25 c (fun r' M' => r' = -6 ∧ Inv (zE1 E 5) N F IT IF L M') b M := by
    rintro _ rfl
    exact zf (by decide) (MN 5 (by decide) rfl ⟨rfl, Inv_ref hI' 5 (by decide)⟩)
  refine ⟨fun a1 => ⟨fun a2 => ?_, fun a2 => ⟨fun a3 => ?_, fun a3 => ?_⟩⟩, fun a1 => ?_⟩
  · unfold wpb_X4_letter_30
    refine RF 5 (by decide) rfl (B6 a1 ?_ (zf (by decide) (rf6 _ rfl)))
    exact znle.mpr a2
  · rw [hc] at a3
    have hlt : cnt < 80 := (nI_ltI (b := 80) (by omega) (by omega)).mp a3
    refine R_put hc hlt (by decide) ?_
    rintro _ rfl
    rintro _ rfl
    refine B0 a1 (znl.mp a2) (zt rfl (zf ?_ ?_))
    · rw [g19]
      intro z
      have := (nI_eq (b := 80) (by omega) (by omega)).mp z
      omega
    refine zt rfl ?_
    rw [g19]
    refine ⟨vp_in_nI hlt (by decide), ?_⟩
    rintro _ rfl
    rintro _ rfl
    rw [zcl (by omega)]
    have e1 : L 1 0 + 1 = nI (cnt + 1) := by rw [hc, nI_1]
    have e2 : M 19 0 + 1 = nI (cnt + 1) := by rw [g19, nI_1]
    refine ⟨?_, h1, h2, h3, h4, ⟨fun j hj => ?_, ?_⟩, ⟨cnt + 1, e1, by omega, fun j hj => ?_⟩, h7, h8⟩
    · show M 19 0 + 1 = L 1 0 + 1
      rw [e1, e2]
    · show upd (L 0) cnt c j = upd (M 15) cnt c j
      by_cases z : j = cnt
      · subst z; rw [pk_us, pk_us]
      · rw [pk_un z, pk_un z, hl j hj]
    · show L 1 0 + 1 = M 19 0 + 1
      rw [e1, e2]
    · show ∃ v : Nat, v < 256 ∧ upd (L 0) cnt c j = nI v
      by_cases z : j = cnt
      · subst z
        rw [pk_us]
        obtain ⟨v, hv1, hv2⟩ := nI_of2 (x := c) (M := 255) (n := 255) rfl (znl.mpr a1) (znl.mp a2)
        exact ⟨v, by omega, hv2⟩
      · rw [pk_un z]
        exact hv j (by omega)
  · unfold wpb_X4_letter_30
    rw [hc] at a3
    have hge : cnt = 80 := by
      have : ¬ cnt < 80 := fun z => a3 ((nI_ltI (b := 80) (by omega) (by omega)).mpr z)
      omega
    refine RF 5 (by decide) rfl (B0 a1 (znl.mp a2) (zt rfl (zt ?_ (rf6 _ rfl))))
    rw [g19, hge]
    rfl
  · refine RF 3 (by decide) rfl (B4 a1 (zf (by decide) ?_))
    exact zf (by decide) (MN 3 (by decide) rfl ⟨rfl, Inv_ref hI' 3 (by decide)⟩)
theorem ok_walker {i q : Int32} (hI : Inv E N F IT IF L M) : wp_X4_walker N i q E (fun r E' => wp_X5_walker i q M (fun r' M' => r' = r ∧ Inv E' N F IT IF L M')) := by
  obtain ⟨R, ⟨n, hV⟩, -⟩ := id hI
  have h8 := hV.2.1
  refine W2 R hV (fun w hw e hm => ?_) (fun hm => ?_)
  · have hw8 : w < 8 := by omega
    have cw : i.toNatClampNeg = w := by rw [e]; exact zcl (by omega)
    have v8 : vp_in i 8 := by rw [e]; exact zv8 hw8
    obtain ⟨r0, r1, r2, r3, r4, r5, r6⟩ := R.2.1 w hw8
    have bad : (q < 0 ∨ 7 < q) → wp_X4_refuse (-2) E (fun r E' => wp_X5_walker i q M (fun r' M' => r' = r ∧ Inv E' N F IT IF L M')) := by
      intro hq
      have ne : ∀ k : Nat, k < 8 → ¬ q = nI k := by
        rintro k hk rfl
        rcases hq with z | z
        · exact nI_pos (by omega) z
        · have := (nI_ltI (a := 7) (by omega) (by omega)).mp z
          omega
      exact RF 1 (by decide) rfl (hm _ (zf (by decide) (zf (ne 0 (by decide)) (zf (ne 1 (by decide)) (zf (ne 2 (by decide)) (zf (ne 3 (by decide)) (zf (ne 4 (by decide)) (zf (ne 5 (by decide)) (zf (ne 6 (by decide)) (zf (ne 7 (by decide)) (MN 1 (by decide) rfl ⟨rfl, Inv_ref hI 1 (by decide)⟩)))))))))))
    refine zf (by decide) ⟨fun a => by unfold wpb_X4_walker_27; exact bad (Or.inl a), fun a => ⟨fun a2 => ⟨fun a3 => ?_, fun a3 => ?_⟩, fun a2 => by unfold wpb_X4_walker_27; exact bad (Or.inr (znle.mp a2))⟩⟩
    · subst a3
      refine R_yh e hw8 (hm _ (zf (by decide) (zf (by decide) (zf (by decide) (zf (by decide) (zf (by decide) (zf (by decide) (zf (by decide) (zf (by decide) (zt rfl ?_)))))))))) 
      rw [e]
      exact M_yh R hV hw ⟨rfl, hI⟩
    · obtain ⟨k, hk, ek⟩ := nI_of2 (x := q) (M := 7) (n := 7) rfl a a2
      subst ek
      have hk7 : k < 7 := by
        rcases Nat.lt_or_ge k 7 with z | z
        · exact z
        · have : k = 7 := by omega
          subst this
          exact absurd rfl a3
      refine R_of e rfl hw8 hk7 (hm _ (zf (by decide) ?_))
      rw [cw, r0, r1, r2, r3, r4, r5, r6]
      rcases (show k = 0 ∨ k = 1 ∨ k = 2 ∨ k = 3 ∨ k = 4 ∨ k = 5 ∨ k = 6 by omega) with z | z | z | z | z | z | z
      · subst z; exact zt rfl ⟨v8, rfl, hI⟩
      · subst z; exact zf (by decide) (zt rfl ⟨v8, rfl, hI⟩)
      · subst z; exact zf (by decide) (zf (by decide) (zt rfl ⟨v8, rfl, hI⟩))
      · subst z; exact zf (by decide) (zf (by decide) (zf (by decide) (zt rfl ⟨v8, rfl, hI⟩)))
      · subst z; exact zf (by decide) (zf (by decide) (zf (by decide) (zf (by decide) (zt rfl ⟨v8, rfl, hI⟩))))
      · subst z; exact zf (by decide) (zf (by decide) (zf (by decide) (zf (by decide) (zf (by decide) (zt rfl ⟨v8, rfl, hI⟩)))))
      · subst z; exact zf (by decide) (zf (by decide) (zf (by decide) (zf (by decide) (zf (by decide) (zf (by decide) (zt rfl ⟨v8, rfl, hI⟩))))))
  · exact zt rfl (RF 0 (by decide) rfl (hm _ (zt rfl (MN 0 (by decide) rfl ⟨rfl, Inv_ref hI 0 (by decide)⟩))))
/-- a side of the door becomes v -/
def zNs (N : zT) (k : Nat) (v : Int32) : zT := va_up N 0 (upd (N 0) k v)
theorem R_chg {T : zT} {q v : Int32} {k : Nat} {Q : Int32 → zT → Prop} (hq : q = nI k) (hk : k < 5) (h : Q (T 0 k) (zNs T k v)) : wp_X3_change q v T Q := by
  refine R_door hq hk (R_put hq hk (by decide) ?_)
  rintro _ rfl
  exact h
theorem zV_side {T : zT} {n k : Nat} {v : Nat} (hV : zV T n) (hk : k < 5) (hv : v ≤ 9 ∨ (k = 3 ∧ v ≤ 40)) (h0 : k = 0 → 1 ≤ v) (h4 : k = 4 → v ≤ 6) : zV (zNs T k (nI v)) n := by
  obtain ⟨a1, a2, ⟨d, hd, d0, d0', d1, d2, d3, d4⟩, a4⟩ := hV
  refine ⟨a1, a2, ⟨fun j => if j = k then v else d j, fun j hj => ?_, ?_, ?_, ?_, ?_, ?_, ?_⟩, a4⟩
  · show upd (T 0) k (nI v) j = _
    by_cases z : j = k
    · subst z; rw [pk_us]; simp
    · rw [pk_un z, hd j hj]; simp [z]
  all_goals (simp only []; split <;> omega)
theorem TR_side {T M : zT} {k : Nat} {v : Int32} (R : TR T M) : TR (zNs T k v) (va_up M 8 (upd (M 8) k v)) := by
  obtain ⟨rd, r⟩ := R
  refine ⟨fun j hj => ?_, r⟩
  show upd (M 8) k v j = upd (T 0) k v j
  by_cases z : j = k
  · subst z; rw [pk_us, pk_us]
  · rw [pk_un z, pk_un z, rd j hj]
theorem Inv_side {k v : Nat} (hI : Inv E N F IT IF L M) (hk : k < 5) (hv : v ≤ 9 ∨ (k = 3 ∧ v ≤ 40)) (h0 : k = 0 → 1 ≤ v) (h4 : k = 4 → v ≤ 6) : Inv E (zNs N k (nI v)) F IT IF L (va_up M 8 (upd (M 8) k (nI v))) := by
  obtain ⟨R, ⟨n, hV⟩, h⟩ := hI
  exact ⟨TR_side R, ⟨n, zV_side hV hk hv h0 h4⟩, h⟩
theorem ok_custom {v : Int32} (hI : Inv E N F IT IF L M) : wp_X4_custom v E N (fun r E' N' => wp_X5_custom v M (fun r' M' => r' = r ∧ Inv E' N' F IT IF L M')) := by
  have R := hI.1
  have bad : (v < 0 ∨ 6 < v) → wp_X4_refuse (-2) E (fun r E' => wp_X5_custom v M (fun r' M' => r' = r ∧ Inv E' N F IT IF L M')) := fun h => RF 1 (by decide) rfl (I0 h (zt rfl (MN 1 (by decide) rfl ⟨rfl, Inv_ref hI 1 (by decide)⟩)))
  refine ⟨fun c => zt rfl (bad (Or.inl c)), fun c => ⟨fun c2 => zt rfl (bad (Or.inr c2)), fun c2 => zf (by decide) (R_chg (k := 4) rfl (by decide) (I1 c c2 (zf (by decide) ⟨vp_in_nI (n := 4) (by decide) (by decide), ?_⟩)))⟩⟩
  rintro _ rfl
  refine ⟨vp_in_nI (n := 4) (by decide) (by decide), ?_⟩
  rintro _ rfl
  obtain ⟨k, hk, ek⟩ := nI_of2 (x := v) (M := 6) (n := 6) rfl c (znl.mp c2)
  subst ek
  exact ⟨R.1 4 (by decide), Inv_side hI (by decide) (Or.inl (by omega)) (fun z => by cases z) (fun _ => hk)⟩
theorem ok_far {i j h : Int32} (hI : Inv E N F IT IF L M) : wp_X4_far N i j h E (fun r E' => wp_X5_far i j h M (fun r' M' => r' = r ∧ Inv E' N F IT IF L M')) := by
  obtain ⟨R, ⟨n, hV⟩, -⟩ := id hI
  have h8 := hV.2.1
  have bad : (∀ Q' : Int32 → Prop, Q' 0 → wp_X5_areTwo M i j Q') → wpb_X4_far_27 N i j h (fun r E' => wp_X5_far i j h M (fun r' M' => r' = r ∧ Inv E' N F IT IF L M')) E := by
    intro hm
    unfold wpb_X4_far_27
    exact RF 0 (by decide) rfl (hm _ (zt rfl (MN 0 (by decide) rfl ⟨rfl, Inv_ref hI 0 (by decide)⟩)))
  refine W2 R hV (fun w hw e hm => zf (by decide) (W2 R hV (fun x hx e2 hm2 => zf (by decide) ⟨fun c => ?_, fun c => ?_⟩) (fun hm2 => zt rfl (bad (fun Q' q => hm _ (zf (by decide) (hm2 _ (zt rfl q)))))))) (fun hm => zt rfl (bad (fun Q' q => hm _ (zt rfl q))))
  · exact bad (fun Q' q => hm _ (zf (by decide) (hm2 _ (zf (by decide) (zt c q)))))
  · have two : ∀ Q' : Int32 → Prop, Q' 1 → wp_X5_areTwo M i j Q' := fun Q' q => hm _ (zf (by decide) (hm2 _ (zf (by decide) (zf c q))))
    have good : ∀ b : Int32, (b = 0 ∨ b = 1) → h = b → wpb_X4_far_63 N i j h (fun r E' => wp_X5_far i j h M (fun r' M' => r' = r ∧ Inv E' N F IT IF L M')) i j b E := by
      rintro b hb rfl
      unfold wpb_X4_far_63
      refine R_up e e2 (by omega) (by omega) (two _ (zf (by decide) (I1 ?_ ?_ (zf (by decide) ?_))))
      · rcases hb with z | z <;> rw [z] <;> decide
      · rcases hb with z | z <;> rw [z] <;> decide
      · rw [e, e2]
        exact M_far R hV hw hx hb ⟨rfl, hI⟩
    refine ⟨fun a => ?_, fun a => ⟨fun a2 => ?_, fun a2 => ?_⟩⟩
    · unfold wpb_X4_isBit_9
      exact zf (by decide) (zf (by rw [a]; decide) (good 0 (Or.inl rfl) a))
    · unfold wpb_X4_isBit_9
      exact zf (by decide) (zt a2 (good 1 (Or.inr rfl) a2))
    · refine zt rfl (RF 1 (by decide) rfl (two _ (zf (by decide) (I0 ?_ (zt rfl (MN 1 (by decide) rfl ⟨rfl, Inv_ref hI 1 (by decide)⟩))))))
      rw [zlt, zlt]
      rw [zeq] at a a2
      have e0 : (0 : Int32).toInt = 0 := rfl
      have e1 : (1 : Int32).toInt = 1 := rfl
      omega
theorem ok_row {v : Int32} (hI : Inv E N F IT IF L M) : wp_X4_row v E (fun r E' => wp_X5_row v M (fun r' M' => r' = r ∧ Inv E' N F IT IF L M')) := by
  have hI' := hI
  obtain ⟨h1, h2, h3, h4, h5, h6, ⟨e11, e5, e10, e9, r, hr, hr8⟩, h8⟩ := hI
  have g40 : M 40 0 = nI r := by rw [← e10]; exact hr
  have rf6 : ∀ b : Int32, b = -6 → wpb_X5_row_24 v (fun r' M' => r' = -6 ∧ Inv (zE1 E 5) N F IT IF L M') b M := by
    rintro _ rfl
    exact zf (by decide) (MN 5 (by decide) rfl ⟨rfl, Inv_ref hI' 5 (by decide)⟩)
  refine ⟨fun a1 => ⟨fun a2 => ?_, fun a2 => ⟨fun a3 => ?_, fun a3 => ?_⟩⟩, fun a1 => ?_⟩
  · unfold wpb_X4_row_26
    exact RF 5 (by decide) rfl (B6 a1 (znle.mpr a2) (zf (by decide) (rf6 _ rfl)))
  · rw [hr] at a3
    have hlt : r < 8 := (nI_ltI (b := 8) (by omega) (by omega)).mp a3
    refine R_put hr hlt (by decide) ?_
    rintro _ rfl
    rintro _ rfl
    refine B0 a1 (znl.mp a2) (zt rfl (zf ?_ ?_))
    · rw [g40]
      intro z
      have := (nI_eq (b := 8) (by omega) (by omega)).mp z
      omega
    refine zt rfl ?_
    rw [g40]
    refine ⟨zv8 hlt, ?_⟩
    rintro _ rfl
    rintro _ rfl
    rw [zcl (by omega)]
    have e1 : E 10 0 + 1 = nI (r + 1) := by rw [hr, nI_1]
    have e2 : M 40 0 + 1 = nI (r + 1) := by rw [g40, nI_1]
    refine ⟨?_, h1, h2, h3, h4, h5, h6, ⟨e11, e5, ?_, fun j hj => ?_, r + 1, e1, by omega⟩, h8⟩
    · show M 40 0 + 1 = E 10 0 + 1
      rw [e1, e2]
    · show E 10 0 + 1 = M 40 0 + 1
      rw [e1, e2]
    · show upd (E 9) r v j = upd (M 39) r v j
      by_cases z : j = r
      · subst z; rw [pk_us, pk_us]
      · rw [pk_un z, pk_un z, e9 j hj]
  · unfold wpb_X4_row_26
    rw [hr] at a3
    have hge : r = 8 := by
      have : ¬ r < 8 := fun z => a3 ((nI_ltI (b := 8) (by omega) (by omega)).mpr z)
      omega
    refine RF 5 (by decide) rfl (B0 a1 (znl.mp a2) (zt rfl (zt ?_ (rf6 _ rfl))))
    rw [g40, hge]
    rfl
  · exact RF 3 (by decide) rfl (B4 a1 (zf (by decide) (zf (by decide) (MN 3 (by decide) rfl ⟨rfl, Inv_ref hI' 3 (by decide)⟩))))
end OK3

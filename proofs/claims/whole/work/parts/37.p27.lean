/-! the reference reads a way, and brings it in -/
section WR
variable {L : zT} {c : Nat}
theorem zcnt_7 (b : Int32) : zcnt b ≤ 7 := by
  unfold zcnt
  split
  · omega
  · split <;> omega
def zAt (ch : Nat → Int32) (S : zT) (k p : Nat) : Prop := S 16 k = ch p ∧ S 17 k = nI p ∧ ∀ i : Nat, i < zcnt (ch p) → S 18 (8 * k + i) = stN ch p i
theorem M_ll {Q : Int32 → zT → Prop} (hc : c ≤ 80) :
    ∀ (f k p : Nat) (S : zT), c < p + f → 4 * k ≤ p → (p < c ∨ k = 0) → mst L c S p → S 21 0 = nI k →
      ((stL (zch L c) c f p).2.2 = true → ∀ S' : zT, (∀ j : Nat, (j < 16 ∨ 18 < j) → j ≠ 20 → j ≠ 21 → S' j = S j) → S' 21 0 = nI (k + (stL (zch L c) c f p).1.length) → (∀ j : Nat, j < (stL (zch L c) c f p).1.length → zAt (zch L c) S' (k + j) ((stL (zch L c) c f p).1.getD j 0)) → (∀ i : Nat, i < k → S' 16 i = S 16 i ∧ S' 17 i = S 17 i) → (∀ i : Nat, i < 8 * k → S' 18 i = S 18 i) → 4 * (k + (stL (zch L c) c f p).1.length) ≤ c → (∀ q ∈ (stL (zch L c) c f p).1, (stR (zch L c) q).2 = true) → wpb_X5_way_60 Q 1 S') →
      (¬ (stL (zch L c) c f p).2.2 = true → ∀ S' : zT, (∀ j : Nat, (j < 16 ∨ 18 < j) → j ≠ 20 → j ≠ 21 → S' j = S j) → S' 20 0 = nI (stL (zch L c) c f p).2.1 → wpb_X5_way_60 Q 0 S') → wpl_X5_way_12 Q (f + 1) 1 S := by
  intro f
  induction f with
  | zero =>
    intro k p S h1 h2 h3 h4
    have := h4.2.2.2
    omega
  | succ f ih =>
    intro k p S h1 h2 h3 h4 h5 q1 q0
    have hpc := h4.2.2.2
    have key : wpb_X5_way_34 Q (wpl_X5_way_12 Q (f + 1)) S := by
      unfold wpb_X5_way_34
      refine M_stm (k := k) hc (by omega) h5 h4 (fun ok S' g1 g2 g3 g4 g5 g6 => zf (by decide) ?_) (fun ok S' g1 g2 => zt rfl ?_)
      · unfold wpb_X5_way_53
        intro S2 e2
        obtain ⟨u1, u2⟩ := stR_up ok
        have s21 : S2 21 0 = nI (k + 1) := by rw [e2, va_up_self, g1 21 (by decide) (by decide), h5, nI_1]
        have sj : ∀ j : Nat, j ≠ 21 → S2 j = S' j := fun j hj => by rw [e2, va_up_ne _ _ hj]
        have m2 : mst L c S2 (stR (zch L c) p).1 := mst_k g6 (sj 15 (by decide)) (sj 19 (by decide)) (by rw [sj 20 (by decide)]; exact g6.2.2.1) u2
        have at0 : zAt (zch L c) S2 k p := ⟨by rw [sj 16 (by decide), g2, pk_us], by rw [sj 17 (by decide), g3, pk_us], fun i hi => by rw [sj 18 (by decide)]; exact g4 i hi⟩
        have kp : ∀ j : Nat, (j < 16 ∨ 18 < j) → j ≠ 20 → j ≠ 21 → S2 j = S j := fun j j1 j2 j3 => (sj j j3).trans (g1 j j1 j2)
        have lo : ∀ i : Nat, i < k → S2 16 i = S 16 i ∧ S2 17 i = S 17 i := fun i hi => ⟨by rw [sj 16 (by decide), g2, pk_un (by omega)], by rw [sj 17 (by decide), g3, pk_un (by omega)]⟩
        have lo8 : ∀ i : Nat, i < 8 * k → S2 18 i = S 18 i := fun i hi => by rw [sj 18 (by decide)]; exact g5 i hi
        by_cases k2 : (stR (zch L c) p).1 < c
        · rw [stL_m ok k2] at q1 q0
          refine ih (k + 1) (stR (zch L c) p).1 S2 (by omega) (by omega) (Or.inl k2) m2 s21 (fun o A a1 a2 a3 a4 a5 a6 a7 => q1 o A (fun j j1 j2 j3 => (a1 j j1 j2 j3).trans (kp j j1 j2 j3)) ?_ (fun j hj => ?_) (fun i hi => ?_) (fun i hi => ?_) ?_ (fun q hq => ?_)) (fun o A a1 a2 => q0 o A (fun j j1 j2 j3 => (a1 j j1 j2 j3).trans (kp j j1 j2 j3)) a2)
          · rw [a2, List.length_cons]
            exact congrArg nI (by omega)
          · cases j with
            | zero =>
              obtain ⟨b1, b2, b3⟩ := at0
              refine ⟨(a4 k (by omega)).1.trans b1, (a4 k (by omega)).2.trans b2, fun i hi => ?_⟩
              have := zcnt_7 (zch L c p)
              have hi' : i < zcnt (zch L c p) := hi
              rw [a5 _ (by omega)]
              exact b3 i hi'
            | succ j =>
              have := a3 j (by rw [List.length_cons] at hj; omega)
              rw [show k + 1 + j = k + (j + 1) by omega] at this
              exact this
          · obtain ⟨b1, b2⟩ := lo i hi
            exact ⟨(a4 i (by omega)).1.trans b1, (a4 i (by omega)).2.trans b2⟩
          · exact (a5 i (by omega)).trans (lo8 i hi)
          · rw [List.length_cons]
            omega
          · rcases List.mem_cons.mp hq with z | z
            · rw [z]; exact ok
            · exact a7 q z
        · rw [stL_e ok k2] at q1 q0
          have fin := q1 ok S2 kp s21 (fun j hj => by
            obtain rfl : j = 0 := by
              have : j < 1 := hj
              omega
            exact at0) lo lo8 (by show 4 * (k + 1) ≤ c; omega) (fun q hq => by rw [List.mem_singleton.mp hq]; exact ok)
          refine zf (by decide) (zf ?_ (zf (fun z => ?_) fin))
          · rw [m2.2.1, m2.2.2.1]
            exact nI_nlt (by omega) (by omega)
          · rw [s21] at z
            exact nI_ne0 (n := k + 1) (by omega) (by omega) z
      · unfold wpb_X5_way_53
        intro S2 e2
        rw [stL_f ok] at q0
        refine zt rfl (q0 ok S2 (fun j j1 j2 j3 => by rw [e2, va_up_ne _ _ j3]; exact g1 j j1 j2) ?_)
        rw [e2, va_up_ne _ _ (by decide)]
        exact g2.2.2.1
    refine zf (by decide) ⟨fun _ => key, fun hn => zt ?_ key⟩
    rcases h3 with z | z
    · exfalso
      apply hn
      rw [h4.2.1, h4.2.2.1]
      exact nI_lt z (by omega)
    · rw [h5, z]; rfl
/-- one statement comes -/
theorem M_cas {S : zT} {k p w : Nat} {Q : Int32 → zT → Prop} (hk : k < 40) (hA : zAt (zch L c) S k p) (ok : (stR (zch L c) p).2 = true) (h13 : S 13 0 = nI w) (h8 : w ≤ 8)
    (q1 : gd (zch L c) w p → ∀ S' : zT, (∀ j : Nat, (j = 0 ∨ 8 < j) → j ≠ 13 → S' j = S j) → S' 13 0 = nI (nw (zch L c) w p) → (∀ T T' : zT, TR T S → apR (zch L c) w p T T' → TR T' S') → Q 1 S')
    (q0 : ¬ gd (zch L c) w p → ∀ S' : zT, (∀ j : Nat, (j = 0 ∨ 8 < j) → j ≠ 13 → S' j = S j) → Q 0 S') : wp_X5_comesAs (nI k) S Q := by
  obtain ⟨e16, -, e18⟩ := hA
  obtain ⟨nd, nc, nww⟩ := stN_n ok
  intro y ey
  obtain rfl : y = nI (8 * k) := by rw [ey, show (8 : Int32) = nI 8 from rfl, pk_mul]
  rw [zcl (show k < 1000 by omega), e16]
  refine ⟨vp_in_nI hk (by decide), fun e => ?_, fun n119 => ⟨vp_in_nI hk (by decide), fun e => ?_, fun n99 => ?_⟩⟩
  · rw [zcnt_w e] at e18
    rw [gd_w e] at q1 q0
    have i1 : nI (8 * k) + (1 : Int32) = nI (8 * k + 1) := nI_add (8 * k) 1
    have i2 : nI (8 * k) + (2 : Int32) = nI (8 * k + 2) := nI_add (8 * k) 2
    have i3 : nI (8 * k) + (3 : Int32) = nI (8 * k + 3) := nI_add (8 * k) 3
    have i4 : nI (8 * k) + (4 : Int32) = nI (8 * k + 4) := nI_add (8 * k) 4
    have i5 : nI (8 * k) + (5 : Int32) = nI (8 * k + 5) := nI_add (8 * k) 5
    have i6 : nI (8 * k) + (6 : Int32) = nI (8 * k + 6) := nI_add (8 * k) 6
    unfold wp_X5_comesWalker
    rw [i1, i2, i3, i4, i5, i6, zcl (show 8 * k < 1000 by omega), zcl (show 8 * k + 1 < 1000 by omega), zcl (show 8 * k + 2 < 1000 by omega), zcl (show 8 * k + 3 < 1000 by omega), zcl (show 8 * k + 4 < 1000 by omega), zcl (show 8 * k + 5 < 1000 by omega), zcl (show 8 * k + 6 < 1000 by omega), h13, e18 2 (by decide), e18 3 (by decide), e18 4 (by decide), e18 5 (by decide), zcl (show w < 1000 by omega)]
    obtain ⟨-, -, -, n3⟩ := nww e
    have bad : ¬ (w < 8 ∧ ¬ stN (zch L c) p 2 < 1 ∧ ¬ 40 < stN (zch L c) p 2 ∧ ¬ stN (zch L c) p 3 < 1 ∧ ¬ 4 < stN (zch L c) p 3 ∧ ¬ 2 < stN (zch L c) p 4 ∧ (stN (zch L c) p 5 = 0 ∨ stN (zch L c) p 5 = 1)) → narrow .boolean (.int 0) = .int 0 ∧ Q 0 S := fun h => ⟨rfl, q0 h S (fun _ _ _ => rfl)⟩
    refine ⟨fun z => bad (fun y => ?_), fun z => ⟨vp_in_nI (by omega) (by decide), ?_⟩⟩
    · have := (nI_eq (a := w) (b := 8) (by omega) (by omega)).mp z
      omega
    have w8 : w < 8 := by
      rcases Nat.lt_or_ge w 8 with y | y
      · exact y
      · obtain rfl : w = 8 := by omega
        exact absurd rfl z
    by_cases g2 : stN (zch L c) p 2 < 1
    · exact I0 (Or.inl g2) (zt rfl (bad (fun y => y.2.1 g2)))
    by_cases g3 : 40 < stN (zch L c) p 2
    · exact I0 (Or.inr g3) (zt rfl (bad (fun y => y.2.2.1 g3)))
    refine I1 g2 g3 (zf (by decide) ⟨vp_in_nI (by omega) (by decide), ?_⟩)
    by_cases g4 : stN (zch L c) p 3 < 1
    · exact I0 (Or.inl g4) (zt rfl (bad (fun y => y.2.2.2.1 g4)))
    by_cases g5 : 4 < stN (zch L c) p 3
    · exact I0 (Or.inr g5) (zt rfl (bad (fun y => y.2.2.2.2.1 g5)))
    refine I1 g4 g5 (zf (by decide) ⟨vp_in_nI (by omega) (by decide), fun g6 => bad (fun y => y.2.2.2.2.2.1 g6), fun g6 => ⟨vp_in_nI (by omega) (by decide), fun g7 => ?_, fun g7 => bad (fun y => ?_)⟩⟩)
    · have g57 : stN (zch L c) p 5 = 0 ∨ stN (zch L c) p 5 = 1 := by
        obtain ⟨d, hd, ed⟩ := n3 5 (by decide) (by decide)
        rw [ed] at g7 ⊢
        have := (nI_leI (a := d) (b := 1) (by omega) (by omega)).mp g7
        rcases (show d = 0 ∨ d = 1 by omega) with z | z
        · subst z; exact Or.inl rfl
        · subst z; exact Or.inr rfl
      have vw : vp_in (nI w) 8 := vp_in_nI w8 (by decide)
      refine ⟨vp_in_nI (by omega) (by decide), vw, ?_⟩
      intro S1 e1
      have a13 : S1 13 0 = nI w := by rw [e1]; exact h13
      rw [a13, zcl (show w < 1000 by omega)]
      refine ⟨vp_in_nI (by omega) (by decide), vw, ?_⟩
      intro S2 e2
      have b13 : S2 13 0 = nI w := by rw [e2]; exact a13
      rw [b13, zcl (show w < 1000 by omega)]
      refine ⟨vp_in_nI (by omega) (by decide), vw, ?_⟩
      intro S3 e3
      have c13 : S3 13 0 = nI w := by rw [e3]; exact b13
      rw [c13, zcl (show w < 1000 by omega)]
      refine ⟨vp_in_nI (by omega) (by decide), vw, ?_⟩
      intro S4 e4
      have d13 : S4 13 0 = nI w := by rw [e4]; exact c13
      rw [d13, zcl (show w < 1000 by omega)]
      refine ⟨vp_in_nI (by omega) (by decide), vw, ?_⟩
      intro S5 e5
      have f13 : S5 13 0 = nI w := by rw [e5]; exact d13
      rw [f13, zcl (show w < 1000 by omega)]
      refine ⟨vp_in_nI (by omega) (by decide), vw, ?_⟩
      intro S6 e6
      have g13 : S6 13 0 = nI w := by rw [e6]; exact f13
      rw [g13, zcl (show w < 1000 by omega)]
      refine ⟨vp_in_nI (by omega) (by decide), vw, ?_⟩
      intro S7 e7
      have k13 : S7 13 0 = nI w := by rw [e7]; exact g13
      intro S8 e8
      refine ⟨rfl, ?_⟩
      have e8' : S8 = va_up (va_up (va_up (va_up (va_up (va_up (va_up (va_up S 1 (upd (S 1) w (stN (zch L c) p 0))) 2 (upd (S 2) w (stN (zch L c) p 1))) 3 (upd (S 3) w (stN (zch L c) p 2))) 4 (upd (S 4) w (stN (zch L c) p 3))) 5 (upd (S 5) w (stN (zch L c) p 4))) 6 (upd (S 6) w (stN (zch L c) p 5))) 7 (upd (S 7) w (stN (zch L c) p 6))) 13 (fun _ => nI (w + 1)) := by
        rw [e8, k13, nI_1, e7, e6, e5, e4, e3, e2, e1, ← e18 0 (by decide), ← e18 1 (by decide), ← e18 2 (by decide), ← e18 3 (by decide), ← e18 4 (by decide), ← e18 5 (by decide), ← e18 6 (by decide)]
        rfl
      have hn : nw (zch L c) w p = w + 1 := by unfold nw; rw [if_pos e]
      refine q1 ⟨w8, g2, g3, g4, g5, g6, g57⟩ S8 (fun j j1 j2 => ?_) (by rw [e8', hn, va_up_self]) (fun T T' hR hT => ?_)
      · rw [e8', va_up_ne _ _ j2, va_up_ne _ _ (by omega), va_up_ne _ _ (by omega), va_up_ne _ _ (by omega), va_up_ne _ _ (by omega), va_up_ne _ _ (by omega), va_up_ne _ _ (by omega), va_up_ne _ _ (by omega)]
      · obtain ⟨r1, r2, r3⟩ := hR
        obtain ⟨t1, t2, t3⟩ := hT
        refine ⟨fun j hj => ?_, fun u hu => ?_, ?_⟩
        · have := t1 j hj
          rw [if_neg (by rw [e]; decide), if_neg (by rw [e]; decide)] at this
          rw [this, e8']
          exact r1 j hj
        · obtain ⟨m0, m1, m2, m3, m4, m5, m6⟩ := r2 u hu
          rw [t2 u hu 0 (by decide), t2 u hu 1 (by decide), t2 u hu 2 (by decide), t2 u hu 3 (by decide), t2 u hu 4 (by decide), t2 u hu 5 (by decide), t2 u hu 6 (by decide), e8']
          show upd (S 1) w _ u = _ ∧ upd (S 2) w _ u = _ ∧ upd (S 3) w _ u = _ ∧ upd (S 4) w _ u = _ ∧ upd (S 5) w _ u = _ ∧ upd (S 6) w _ u = _ ∧ upd (S 7) w _ u = _
          by_cases z : u = w
          · subst z
            rw [pk_us, pk_us, pk_us, pk_us, pk_us, pk_us, pk_us, if_pos ⟨e, rfl⟩, if_pos ⟨e, rfl⟩, if_pos ⟨e, rfl⟩, if_pos ⟨e, rfl⟩, if_pos ⟨e, rfl⟩, if_pos ⟨e, rfl⟩, if_pos ⟨e, rfl⟩]
            exact ⟨rfl, rfl, rfl, rfl, rfl, rfl, rfl⟩
          · rw [pk_un z, pk_un z, pk_un z, pk_un z, pk_un z, pk_un z, pk_un z, if_neg (fun y => z y.2), if_neg (fun y => z y.2), if_neg (fun y => z y.2), if_neg (fun y => z y.2), if_neg (fun y => z y.2), if_neg (fun y => z y.2), if_neg (fun y => z y.2)]
            exact ⟨m0, m1, m2, m3, m4, m5, m6⟩
        · rw [t3, hn, e8', va_up_self]
    · rcases y.2.2.2.2.2.2 with z | z
      · rw [z] at g7; exact absurd (by decide) g7
      · rw [z] at g7; exact absurd (by decide) g7
  · rw [zcnt_c e] at e18
    rw [gd_c e] at q1 q0
    have i1 : nI (8 * k) + (1 : Int32) = nI (8 * k + 1) := nI_add (8 * k) 1
    rw [i1, zcl (show 8 * k < 1000 by omega), zcl (show 8 * k + 1 < 1000 by omega)]
    have n0 : S 18 (8 * k) = stN (zch L c) p 0 := e18 0 (by decide)
    have n1 := e18 1 (by decide)
    refine ⟨vp_in_nI (by omega) (by decide), vp_in_nI (n := 4) (by decide) (by decide), ?_⟩
    intro S1 e1
    refine ⟨vp_in_nI (by omega) (by decide), vp_in_nI (n := 3) (by decide) (by decide), ?_⟩
    intro S2 e2
    have x18 : S2 18 = S 18 := by rw [e2, va_up_ne _ _ (by decide), e1, va_up_ne _ _ (by decide)]
    have x8 : S2 8 = upd (upd (S 8) 4 (stN (zch L c) p 0)) 3 (stN (zch L c) p 1) := by
      rw [e2, va_up_self, e1, va_up_self, va_up_ne _ _ (by decide), n0, n1]
      rfl
    have xj : ∀ j : Nat, j ≠ 8 → S2 j = S j := fun j hj => by rw [e2, va_up_ne _ _ hj, e1, va_up_ne _ _ hj]
    rw [x18, n0, n1]
    have bad : ¬ (¬ 6 < stN (zch L c) p 0 ∧ ¬ 40 < stN (zch L c) p 1) → Q 0 S2 := fun h => q0 h S2 (fun j j1 j2 => xj j (by omega))
    refine ⟨vp_in_nI (by omega) (by decide), fun g => bad (fun y => y.1 ?_), fun g => ⟨vp_in_nI (by omega) (by decide), fun g2 => bad (fun y => y.2 g2), fun g2 => q1 ⟨fun y => g ?_, g2⟩ S2 (fun j j1 j2 => xj j (by omega)) ?_ (fun T T' hR hT => ?_)⟩⟩
    · rw [zle] at g
      rw [zlt]
      have : (6 : Int32).toInt = 6 := rfl
      have : (7 : Int32).toInt = 7 := rfl
      omega
    · rw [zlt] at y
      rw [zle]
      have : (6 : Int32).toInt = 6 := rfl
      have : (7 : Int32).toInt = 7 := rfl
      omega
    · unfold nw
      rw [if_neg (by rw [e]; decide), xj 13 (by decide)]
      exact h13
    · obtain ⟨r1, r2, r3⟩ := hR
      obtain ⟨t1, t2, t3⟩ := hT
      refine ⟨fun j hj => ?_, fun u hu => ?_, ?_⟩
      · rw [t1 j hj, if_neg (by rw [e]; decide), if_pos e, x8]
        rcases (show j = 4 ∨ j = 3 ∨ j < 3 by omega) with z | z | z
        · subst z; rw [if_pos rfl, pk_un (by decide), pk_us]
        · subst z; rw [if_neg (by decide), if_pos rfl, pk_us]
        · rw [if_neg (by omega), if_neg (by omega), pk_un (by omega), pk_un (by omega)]
          exact r1 j hj
      · rw [t2 u hu 0 (by decide), t2 u hu 1 (by decide), t2 u hu 2 (by decide), t2 u hu 3 (by decide), t2 u hu 4 (by decide), t2 u hu 5 (by decide), t2 u hu 6 (by decide), xj 1 (by decide), xj 2 (by decide), xj 3 (by decide), xj 4 (by decide), xj 5 (by decide), xj 6 (by decide), xj 7 (by decide)]
        have nn : ∀ j : Nat, ¬ (zch L c p = 119 ∧ u = w) := fun _ z => n119 z.1
        rw [if_neg (nn 0), if_neg (nn 0), if_neg (nn 0), if_neg (nn 0), if_neg (nn 0), if_neg (nn 0), if_neg (nn 0)]
        exact r2 u hu
      · rw [t3, xj 13 (by decide), h13]
        unfold nw
        rw [if_neg n119]
  · have e : zch L c p = 100 := by
      rcases stR_s ok with z | z | z
      · exact z
      · exact absurd z n99
      · exact absurd z n119
    rw [zcnt_d e] at e18
    rw [gd_d e] at q1 q0
    have key : ∀ (x i : Nat) (A : zT), i + x = 3 → (∀ j : Nat, j ≠ 8 → A j = S j) → (∀ j : Nat, A 8 j = if j < i then stN (zch L c) p j else S 8 j) → wpl_X5_comesAs_91 (nI k) Q (x + 1) (nI (8 * k)) (nI i) A := by
      intro x
      induction x with
      | zero =>
        intro i A hi hj h8'
        obtain rfl : i = 3 := by omega
        refine zt (Int32.le_refl _) ?_
        unfold wpb_X5_comesAs_116
        rw [zcl (show 8 * k < 1000 by omega), hj 18 (by decide)]
        have n0 : S 18 (8 * k) = stN (zch L c) p 0 := e18 0 (by decide)
        rw [n0]
        refine ⟨vp_in_nI (by omega) (by decide), fun g => q0 (fun y => y ?_) A (fun j j1 j2 => hj j (by omega)), fun g => q1 (fun y => g ?_) A (fun j j1 j2 => hj j (by omega)) ?_ (fun T T' hR hT => ?_)⟩
        · rw [zle] at g
          rw [zlt]
          have : (0 : Int32).toInt = 0 := rfl
          have : (1 : Int32).toInt = 1 := rfl
          omega
        · rw [zlt] at y
          rw [zle]
          have : (0 : Int32).toInt = 0 := rfl
          have : (1 : Int32).toInt = 1 := rfl
          omega
        · unfold nw
          rw [if_neg n119, hj 13 (by decide)]
          exact h13
        · obtain ⟨r1, r2, r3⟩ := hR
          obtain ⟨t1, t2, t3⟩ := hT
          refine ⟨fun j hj5 => ?_, fun u hu => ?_, ?_⟩
          · rw [t1 j hj5, if_pos e, h8' j]
            by_cases z : j < 3
            · rw [if_pos z, if_pos z]
            · rw [if_neg z, if_neg z]
              exact r1 j hj5
          · rw [t2 u hu 0 (by decide), t2 u hu 1 (by decide), t2 u hu 2 (by decide), t2 u hu 3 (by decide), t2 u hu 4 (by decide), t2 u hu 5 (by decide), t2 u hu 6 (by decide), hj 1 (by decide), hj 2 (by decide), hj 3 (by decide), hj 4 (by decide), hj 5 (by decide), hj 6 (by decide), hj 7 (by decide)]
            have nn : ¬ (zch L c p = 119 ∧ u = w) := fun z => n119 z.1
            rw [if_neg nn, if_neg nn, if_neg nn, if_neg nn, if_neg nn, if_neg nn, if_neg nn]
            exact r2 u hu
          · rw [t3, hj 13 (by decide), h13]
            unfold nw
            rw [if_neg n119]
      | succ x ih =>
        intro i A hi hj h8'
        refine zf (nI_ge (b := 3) (by omega) (by omega)) ?_
        rw [nI_add, zcl (show 8 * k + i < 1000 by omega), zcl (show i < 1000 by omega), hj 18 (by decide), e18 i (by omega)]
        refine ⟨vp_in_nI (by omega) (by decide), vp_in_nI (by omega) (by decide), ?_⟩
        rintro _ rfl _ rfl
        rw [show nI i + (1 : Int32) = nI (i + 1) from nI_1 i]
        refine ih (i + 1) _ (by omega) (fun j q => by rw [va_up_ne _ _ q]; exact hj j q) (fun j => ?_)
        rw [va_up_self]
        by_cases z : j = i
        · rw [z, pk_us, if_pos (by omega)]
        · rw [pk_un z, h8' j]
          by_cases y : j < i
          · rw [if_pos y, if_pos (by omega)]
          · rw [if_neg y, if_neg (by omega)]
    exact ⟨4, key 3 0 S (by omega) (fun _ _ => rfl) (fun j => by rw [if_neg (by omega)])⟩
/-- all statements come, or the first that is wrong is found -/
theorem M_app {Q : Int32 → zT → Prop} : ∀ (l : List Nat) (k w : Nat) (S : zT), k + l.length ≤ 40 → S 21 0 = nI (k + l.length) → (∀ j : Nat, j < l.length → zAt (zch L c) S (k + j) (l.getD j 0)) → (∀ q ∈ l, (stR (zch L c) q).2 = true) → S 13 0 = nI w → w ≤ 8 →
    (fw (zch L c) l w = none → ∀ S' : zT, (∀ j : Nat, (j = 0 ∨ 8 < j) → j ≠ 13 → S' j = S j) → (∀ T T' : zT, TR T S → apL (zch L c) l w T T' → TR T' S') → Q (nI (k + l.length)) S') →
    (∀ q : Nat, fw (zch L c) l w = some q → ∀ (S' : zT) (x : Nat), (∀ j : Nat, (j = 0 ∨ 8 < j) → j ≠ 13 → S' j = S j) → x < 40 → S' 17 x = nI q → wpb_X5_way_105 Q (nI x) S') → wpl_X5_way_86 Q (l.length + 1) (nI k) S := by
  intro l
  induction l with
  | nil =>
    intro k w S h1 h2 h3 h4 h5 h6 q1 q2
    refine zt (by rw [h2]; exact Int32.le_refl _) ?_
    rw [h2]
    refine q1 rfl S (fun _ _ _ => rfl) (fun T T' hR hT => ?_)
    have : T' = T := hT
    rw [this]
    exact hR
  | cons p l ih =>
    intro k w S h1 h2 h3 h4 h5 h6 q1 q2
    rw [List.length_cons] at h1 h2
    have ok := h4 p List.mem_cons_self
    have h0 := h3 0 (by rw [List.length_cons]; omega)
    refine zf (by rw [h2]; exact nI_ge (by omega) (by omega)) (M_cas (p := p) (w := w) (by omega) h0 ok h5 h6 (fun g S' a1 a2 a3 => zf (by decide) ?_) (fun g S' a1 => zt rfl ?_))
    · rintro _ rfl
      rw [show nI k + (1 : Int32) = nI (k + 1) from nI_1 k]
      have s16 : S' 16 = S 16 := a1 16 (Or.inr (by decide)) (by decide)
      have s17 : S' 17 = S 17 := a1 17 (Or.inr (by decide)) (by decide)
      have s18 : S' 18 = S 18 := a1 18 (Or.inr (by decide)) (by decide)
      have s21 : S' 21 = S 21 := a1 21 (Or.inr (by decide)) (by decide)
      refine ih (k + 1) (nw (zch L c) w p) S' (by omega) (by rw [s21, h2]; exact congrArg nI (by omega)) (fun j hj => ?_) (fun q hq => h4 q (List.mem_cons_of_mem _ hq)) a2 (nw_8 g h6) (fun e S2 b1 b2 => ?_) (fun q e S2 x b1 b2 b3 => q2 q (by rw [fw_y g]; exact e) S2 x (fun j j1 j2 => (b1 j j1 j2).trans (a1 j j1 j2)) b2 b3)
      · have := h3 (j + 1) (by rw [List.length_cons]; omega)
        rw [show k + (j + 1) = k + 1 + j by omega] at this
        obtain ⟨c1, c2, c3⟩ := this
        exact ⟨by rw [s16]; exact c1, by rw [s17]; exact c2, fun i hi => by rw [s18]; exact c3 i hi⟩
      · have := q1 (by rw [fw_y g]; exact e) S2 (fun j j1 j2 => (b1 j j1 j2).trans (a1 j j1 j2)) (fun T T' hR hT => by
          obtain ⟨T1, hT1, hT2⟩ := hT
          exact b2 T1 T' (a3 T T1 hR hT1) hT2)
        rw [List.length_cons] at this
        rw [show k + 1 + l.length = k + (l.length + 1) by omega]
        exact this
    · refine q2 p (fw_n g) S' k a1 (by omega) ?_
      rw [a1 17 (Or.inr (by decide)) (by decide)]
      exact h0.2.1
end WR

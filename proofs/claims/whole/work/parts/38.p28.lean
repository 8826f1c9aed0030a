/-! a way comes: class and reference -/
section WW
variable {L : zT} {c : Nat}
theorem stL_ok : ∀ (f p : Nat), ∀ q ∈ (stL (zch L c) c f p).1, (stR (zch L c) q).2 = true := by
  intro f
  induction f with
  | zero => intro p q hq; cases hq
  | succ f ih =>
    intro p q hq
    by_cases k : (stR (zch L c) p).2 = true
    · by_cases k2 : (stR (zch L c) p).1 < c
      · rw [stL_m k k2] at hq
        rcases List.mem_cons.mp hq with z | z
        · rw [z]; exact k
        · exact ih _ q z
      · rw [stL_e k k2] at hq
        rw [List.mem_singleton.mp hq]; exact k
    · rw [stL_f k] at hq
      cases hq
theorem fw_in {ch : Nat → Int32} : ∀ (l : List Nat) (w q : Nat), fw ch l w = some q → q ∈ l := by
  intro l
  induction l with
  | nil => intro w q h; cases h
  | cons p l ih =>
    intro w q h
    by_cases g : gd ch w p
    · rw [fw_y g] at h
      exact List.mem_cons_of_mem _ (ih _ q h)
    · rw [fw_n g] at h
      cases h
      exact List.mem_cons_self
theorem znle2 {a b : Nat} (ha : a < 1000) (hb : b < 1000) (h : ¬ nI b < nI a) : a ≤ b := by
  rcases Nat.lt_or_ge b a with z | z
  · exact absurd (nI_lt z (by omega)) h
  · exact z
theorem apR_V {T T' : zT} {p w : Nat} (ok : (stR (zch L c) p).2 = true) (g : gd (zch L c) w p) (h : apR (zch L c) w p T T') (hV : zV T w) : zV T' (nw (zch L c) w p) := by
  obtain ⟨nd, nc, nww⟩ := stN_n ok
  obtain ⟨t1, t2, t3⟩ := h
  obtain ⟨a1, a2, ⟨d, hd, d0, d0', d1, d2, d3, d4⟩, a4⟩ := hV
  refine ⟨t3, nw_8 g a2, ?_, ?_⟩
  · rcases stR_s ok with e | e | e
    · obtain ⟨x0, h0, e0⟩ := nd e 0 (by decide)
      obtain ⟨x1, h1, e1⟩ := nd e 1 (by decide)
      obtain ⟨x2, h2, e2⟩ := nd e 2 (by decide)
      have g1 := (gd_d e).mp g
      rw [e0] at g1
      have y0 : 1 ≤ x0 := znle2 (a := 1) (by omega) (by omega) g1
      refine ⟨fun k => if k = 0 then x0 else if k = 1 then x1 else if k = 2 then x2 else d k, fun k hk => ?_, y0, h0, h1, h2, d3, d4⟩
      have := t1 k hk
      rw [if_pos e] at this
      rw [this]
      rcases (show k = 0 ∨ k = 1 ∨ k = 2 ∨ 3 ≤ k by omega) with z | z | z | z
      · subst z; exact e0
      · subst z; exact e1
      · subst z; exact e2
      · show _ = nI (if k = 0 then x0 else if k = 1 then x1 else if k = 2 then x2 else d k)
        rw [if_neg (by omega), if_neg (by omega), if_neg (by omega), if_neg (by omega)]
        exact hd k hk
    · obtain ⟨⟨x0, h0, e0⟩, ⟨x1, h1, e1⟩⟩ := nc e
      obtain ⟨g1, g2⟩ := (gd_c e).mp g
      rw [e0] at g1
      rw [e1] at g2
      have y0 : x0 ≤ 6 := znle2 (b := 6) (by omega) (by omega) g1
      have y1 : x1 ≤ 40 := znle2 (b := 40) (by omega) (by omega) g2
      refine ⟨fun k => if k = 4 then x0 else if k = 3 then x1 else d k, fun k hk => ?_, d0, d0', d1, d2, y1, y0⟩
      have := t1 k hk
      rw [if_neg (by rw [e]; decide), if_pos e] at this
      rw [this]
      rcases (show k = 4 ∨ k = 3 ∨ k < 3 by omega) with z | z | z
      · subst z; exact e0
      · subst z; exact e1
      · show _ = nI (if k = 4 then x0 else if k = 3 then x1 else d k)
        rw [if_neg (by omega), if_neg (by omega), if_neg (by omega), if_neg (by omega)]
        exact hd k hk
    · refine ⟨d, fun k hk => ?_, d0, d0', d1, d2, d3, d4⟩
      have := t1 k hk
      rw [if_neg (by rw [e]; decide), if_neg (by rw [e]; decide)] at this
      rw [this]
      exact hd k hk
  · intro u hu
    by_cases e : zch L c p = 119
    · have g1 := (gd_w e).mp g
      have enw : nw (zch L c) w p = w + 1 := by unfold nw; rw [if_pos e]
      rw [enw] at hu
      by_cases z : u = w
      · obtain ⟨⟨x0, h0, e0⟩, ⟨x1, h1, e1⟩, ⟨x2, h2, e2⟩, n3⟩ := nww e
        obtain ⟨x3, h3, e3⟩ := n3 3 (by decide) (by decide)
        obtain ⟨x4, h4, e4⟩ := n3 4 (by decide) (by decide)
        obtain ⟨x5, h5, e5⟩ := n3 5 (by decide) (by decide)
        obtain ⟨x6, h6, e6⟩ := n3 6 (by decide) (by decide)
        obtain ⟨g0, g2, g3, g4, g5, g6, g7⟩ := g1
        rw [e2] at g2 g3
        rw [e3] at g4 g5
        rw [e4] at g6
        rw [e5] at g7
        have y5 : x5 ≤ 1 := by
          rcases g7 with y | y
          · have := (nI_eq (a := x5) (b := 0) (by omega) (by omega)).mp y; omega
          · have := (nI_eq (a := x5) (b := 1) (by omega) (by omega)).mp y; omega
        have w2 : 1 ≤ x2 := znle2 (a := 1) (by omega) (by omega) g2
        have w3 : x2 ≤ 40 := znle2 (b := 40) (by omega) (by omega) g3
        have w4 : 1 ≤ x3 := znle2 (a := 1) (by omega) (by omega) g4
        have w5 : x3 ≤ 4 := znle2 (b := 4) (by omega) (by omega) g5
        have w6 : x4 ≤ 2 := znle2 (b := 2) (by omega) (by omega) g6
        refine ⟨fun j => if j = 0 then x0 else if j = 1 then x1 else if j = 2 then x2 else if j = 3 then x3 else if j = 4 then x4 else if j = 5 then x5 else x6, fun j hj => ?_, h0, h1, w2, w3, w4, w5, w6, y5, h6⟩
        rw [t2 u (by omega) j hj, if_pos ⟨e, z⟩]
        rcases (show j = 0 ∨ j = 1 ∨ j = 2 ∨ j = 3 ∨ j = 4 ∨ j = 5 ∨ j = 6 by omega) with y | y | y | y | y | y | y
        · subst y; exact e0
        · subst y; exact e1
        · subst y; exact e2
        · subst y; exact e3
        · subst y; exact e4
        · subst y; exact e5
        · subst y; exact e6
      · obtain ⟨a, ha, hb⟩ := a4 u (by omega)
        refine ⟨a, fun j hj => ?_, hb⟩
        rw [t2 u (by omega) j hj, if_neg (fun y => z y.2)]
        exact ha j hj
    · have enw : nw (zch L c) w p = w := by unfold nw; rw [if_neg e]
      rw [enw] at hu
      obtain ⟨a, ha, hb⟩ := a4 u hu
      refine ⟨a, fun j hj => ?_, hb⟩
      rw [t2 u (by omega) j hj, if_neg (fun y => e y.1)]
      exact ha j hj
theorem apL_V : ∀ (l : List Nat) (w : Nat) (T T' : zT), (∀ q ∈ l, (stR (zch L c) q).2 = true) → fw (zch L c) l w = none → apL (zch L c) l w T T' → zV T w → ∃ n : Nat, zV T' n := by
  intro l
  induction l with
  | nil =>
    intro w T T' _ _ h hV
    have : T' = T := h
    rw [this]
    exact ⟨w, hV⟩
  | cons p l ih =>
    intro w T T' hq hf h hV
    obtain ⟨T1, h1, h2⟩ := h
    by_cases g : gd (zch L c) w p
    · rw [fw_y g] at hf
      exact ih _ T1 T' (fun q z => hq q (List.mem_cons_of_mem _ z)) hf h2 (apR_V (hq p List.mem_cons_self) g h1 hV)
    · rw [fw_n g] at hf
      cases hf
end WW
section OK14
variable {E N F IT IF L M G Mi : zT}
theorem Inv_new {N' L' M' : zT} {n : Nat} (h : Inv E N F IT IF L M) (hR : TR N' M') (hV : zV N' n) (hr : ∀ r : Nat, 9 ≤ r → r < 13 → ∀ i : Nat, i < 10 → M' r i = M r i) (h14 : M' 14 0 = M 14 0) (hk : ∀ k : Nat, (k = 0 ∨ k = 15 ∨ k = 23 ∨ k = 39 ∨ k = 40) → M' k = M k) (h19 : M' 19 0 = 0) (h22 : ∀ p : Nat, p < 103 → M' 22 p = M 22 p) (l0 : L' 0 = L 0) (l1 : L' 1 0 = 0) : Inv E N' F IT IF L' M' := by
  obtain ⟨-, -, ⟨f1, f2⟩, h4, ⟨k1, -⟩, -, ⟨e1, e2, e3, e4, e5⟩, h8⟩ := h
  refine ⟨hR, ⟨n, hV⟩, ⟨fun i q => ?_, f2.trans h14.symm⟩, h4, ⟨fun i q => by rw [l0, hk 15 (by decide)]; exact k1 i q, l1.trans h19.symm⟩, ⟨0, l1, by decide, fun i q => absurd q (Nat.not_lt_zero i)⟩, ⟨fun k q => by rw [hk 0 (by decide)]; exact e1 k q, by rw [hk 23 (by decide)]; exact e2, by rw [hk 40 (by decide)]; exact e3, fun i q => by rw [hk 39 (by decide)]; exact e4 i q, e5⟩, ?_⟩
  · rw [hr 9 (by decide) (by decide) i q, hr 10 (by decide) (by decide) i q, hr 11 (by decide) (by decide) i q, hr 12 (by decide) (by decide) i q]
    exact f1 i q
  · rcases h8 with h8 | ⟨h8, ⟨i1, i2, i3, i4, i5⟩, i6⟩
    · exact Or.inl h8
    · refine Or.inr ⟨h8, ⟨fun w q => ?_, fun k q => by rw [h22 _ (by omega)]; exact i2 k q, fun i q => ?_, by rw [h22 _ (by omega)]; exact i4, by rw [h22 _ (by omega)]; exact i5⟩, i6⟩
      · rw [h22 _ (by omega), h22 _ (by omega), h22 _ (by omega), h22 _ (by omega), h22 _ (by omega), h22 _ (by omega), h22 _ (by omega)]
        exact i1 w q
      · rw [h22 _ (by omega), h22 _ (by omega), h22 _ (by omega), h22 _ (by omega)]
        exact i3 i q
theorem TR_pt {T M M' : zT} (h : TR T M) (h8 : ∀ k : Nat, k < 5 → M' 8 k = M 8 k) (hr : ∀ r : Nat, 1 ≤ r → r < 8 → ∀ i : Nat, i < 8 → M' r i = M r i) (h13 : M' 13 0 = M 13 0) : TR T M' := by
  obtain ⟨r1, r2, r3⟩ := h
  refine ⟨fun k q => by rw [h8 k q]; exact r1 k q, fun w q => ?_, h13.trans r3⟩
  rw [hr 1 (by decide) (by decide) w q, hr 2 (by decide) (by decide) w q, hr 3 (by decide) (by decide) w q, hr 4 (by decide) (by decide) w q, hr 5 (by decide) (by decide) w q, hr 6 (by decide) (by decide) w q, hr 7 (by decide) (by decide) w q]
  exact r2 w q
def zB2 (M B : zT) : Prop := (∀ r : Nat, 9 ≤ r → r < 13 → B r = M r) ∧ B 14 0 = M 14 0 ∧ (∀ k : Nat, (k = 0 ∨ k = 15 ∨ k = 23 ∨ k = 39 ∨ k = 40) → B k = M k) ∧ B 19 0 = 0 ∧ (∀ p : Nat, p < 110 → B 22 p = M 22 p) ∧ (∀ r : Nat, 1 ≤ r → r < 13 → ∀ i : Nat, i < zlen r → B 22 (110 * 1 + zoff r + i) = M r i) ∧ B 22 (110 * 1 + 101) = M 13 0 ∧ B 22 (110 * 1 + 102) = M 14 0
theorem zwn : ∀ q, q < 200 → ¬ ((-2000 : Int32) - nI q = 0) ∧ ¬ ((-1000 : Int32) - nI q = 0) := by decide +kernel
theorem ok_way (hI : Inv E N F IT IF L M) : wp_X4_way E N L (fun r N' L' => wp_X5_way M (fun r' M' => r' = r ∧ Inv E N' F IT IF L' M')) := by
  obtain ⟨R, ⟨n, hV⟩, -, -, ⟨k1, k2⟩, ⟨c, l1, hc, hv⟩, -⟩ := id hI
  have h8 := hV.2.1
  have n13 : M 13 0 = nI n := R.2.2.trans hV.1
  -- the reference, up to its last part
  have ref : ∀ Q : Int32 → zT → Prop,
      ((stL (zch L c) c 81 0).2.2 = true → ∀ S' : zT, (∀ j : Nat, (j < 16 ∨ 18 < j) → j ≠ 20 → j ≠ 21 → S' j = M j) → S' 21 0 = nI (0 + (stL (zch L c) c 81 0).1.length) → (∀ j : Nat, j < (stL (zch L c) c 81 0).1.length → zAt (zch L c) S' (0 + j) ((stL (zch L c) c 81 0).1.getD j 0)) → 4 * (0 + (stL (zch L c) c 81 0).1.length) ≤ c → wpb_X5_way_60 Q 1 S') →
      (¬ (stL (zch L c) c 81 0).2.2 = true → ∀ S' : zT, (∀ j : Nat, (j < 16 ∨ 18 < j) → j ≠ 20 → j ≠ 21 → S' j = M j) → S' 20 0 = nI (stL (zch L c) c 81 0).2.1 → wpb_X5_way_60 Q 0 S') → wp_X5_way M Q := by
    intro Q q1 q0
    rintro S1 e1 S2 e2
    have sj : ∀ j : Nat, j ≠ 20 → j ≠ 21 → S2 j = M j := fun j j1 j2 => by rw [e2, va_up_ne _ _ j2, e1, va_up_ne _ _ j1]
    have m0 : mst L c S2 0 := ⟨fun i hi => by rw [sj 15 (by decide) (by decide)]; exact k1 i hi, by rw [sj 19 (by decide) (by decide), ← k2]; exact l1, by rw [e2, va_up_ne _ _ (by decide), e1, va_up_self]; rfl, Nat.zero_le _⟩
    exact ⟨82, M_ll hc 81 0 0 S2 (by omega) (by omega) (Or.inr rfl) m0 (by rw [e2, va_up_self]; rfl) (fun o S' a1 a2 a3 _ _ a6 _ => q1 o S' (fun j j1 j2 j3 => (a1 j j1 j2 j3).trans (sj j j2 j3)) a2 a3 a6) (fun o S' a1 a2 => q0 o S' (fun j j1 j2 j3 => (a1 j j1 j2 j3).trans (sj j j2 j3)) a2)⟩
  -- behind a way that is read
  have rok : ∀ (Q : Int32 → zT → Prop) (S' : zT), (∀ j : Nat, (j < 16 ∨ 18 < j) → j ≠ 20 → j ≠ 21 → S' j = M j) → S' 21 0 = nI (0 + (stL (zch L c) c 81 0).1.length) → (∀ j : Nat, j < (stL (zch L c) c 81 0).1.length → zAt (zch L c) S' (0 + j) ((stL (zch L c) c 81 0).1.getD j 0)) → 4 * (0 + (stL (zch L c) c 81 0).1.length) ≤ c →
      (fw (zch L c) (stL (zch L c) c 81 0).1 n = none → ∀ B : zT, zB2 M B → (∀ T' : zT, apL (zch L c) (stL (zch L c) c 81 0).1 n N T' → TR T' B) → Q (nI (0 + (stL (zch L c) c 81 0).1.length)) B) →
      (∀ q : Nat, fw (zch L c) (stL (zch L c) c 81 0).1 n = some q → ∀ (B : zT) (x : Nat), zB2 M B → x < 40 → B 17 x = nI q → wpb_X5_way_105 Q (nI x) B) → wpb_X5_way_60 Q 1 S' := by
    intro Q S' a1 a2 a3 a4 q1 q2
    unfold wpb_X5_way_60
    rintro S2 e2
    have ss : ∀ j : Nat, j ≠ 19 → S2 j = S' j := fun j hj => by rw [e2, va_up_ne _ _ hj]
    have sj : ∀ j : Nat, (j < 16 ∨ 18 < j) → j ≠ 20 → j ≠ 21 → j ≠ 19 → S2 j = M j := fun j j1 j2 j3 j4 => by rw [ss j j4, a1 j j1 j2 j3]
    have s19 : S2 19 0 = 0 := by rw [e2, va_up_self]
    refine zf (by decide) (M_keepAll 1 (by decide) rfl (fun A hA => ⟨(stL (zch L c) c 81 0).1.length + 1, ?_⟩))
    obtain ⟨z1, z2, z3, z4, z5, z6, z7⟩ := hA
    have aj : ∀ j : Nat, j < 13 → A j = M j := fun j hj => by rw [z1 j (Or.inl hj) (by omega) (by omega) (by omega), sj j (Or.inl (by omega)) (by omega) (by omega) (by omega)]
    have a13 : A 13 0 = M 13 0 := by rw [z2, sj 13 (by decide) (by decide) (by decide) (by decide)]
    have hR : TR N A := TR_pt R (fun k q => by rw [aj 8 (by decide)]) (fun r r1 r2 i hi => by rw [aj r (by omega)]) a13
    have zb : ∀ B : zT, (∀ j : Nat, (j = 0 ∨ 8 < j) → j ≠ 13 → B j = A j) → zB2 M B := by
      intro B hB
      refine ⟨fun r r1 r2 => by rw [hB r (by omega) (by omega), aj r r2], ?_, fun k hk => ?_, ?_, fun p hp => ?_, fun r r1 r2 i hi => ?_, ?_, ?_⟩
      · rw [hB 14 (by decide) (by decide), z3, sj 14 (by decide) (by decide) (by decide) (by decide)]
      · rw [hB k (by omega) (by omega), z1 k (by omega) (by omega) (by omega) (by omega), sj k (by omega) (by omega) (by omega) (by omega)]
      · rw [hB 19 (by decide) (by decide), z1 19 (by decide) (by decide) (by decide) (by decide), s19]
      · rw [hB 22 (by decide) (by decide), z7 p (by omega), sj 22 (by decide) (by decide) (by decide) (by decide)]
      · rw [hB 22 (by decide) (by decide), z4 r r1 r2 i hi, sj r (by omega) (by omega) (by omega) (by omega)]
      · rw [hB 22 (by decide) (by decide), z5, sj 13 (by decide) (by decide) (by decide) (by decide)]
      · rw [hB 22 (by decide) (by decide), z6, sj 14 (by decide) (by decide) (by decide) (by decide)]
    refine M_app (L := L) (c := c) _ 0 n A (by omega) ?_ (fun j hj => ?_) (stL_ok 81 0) (by rw [a13]; exact n13) h8 (fun e B hB hT => q1 e B (zb B hB) (fun T' hT' => hT N T' hR hT')) (fun q e B x hB hx h17 => q2 q e B x (zb B hB) hx h17)
    · rw [z1 21 (by decide) (by decide) (by decide) (by decide), ss 21 (by decide)]; exact a2
    · obtain ⟨b1, b2, b3⟩ := a3 j hj
      refine ⟨?_, ?_, fun i hi => ?_⟩
      · rw [z1 16 (by decide) (by decide) (by decide) (by decide), ss 16 (by decide)]; exact b1
      · rw [z1 17 (by decide) (by decide) (by decide) (by decide), ss 17 (by decide)]; exact b2
      · rw [z1 18 (by decide) (by decide) (by decide) (by decide), ss 18 (by decide)]; exact b3 i hi
  -- the class
  have s0 : zst L c (va_up (va_up L 2 (fun _ => (0 : Int32))) 3 (fun _ => (0 : Int32))) (0, true) := ⟨rfl, l1, by rw [va_up_ne _ _ (by decide), va_up_self]; rfl, Nat.zero_le _, by rw [va_up_self]; rfl⟩
  unfold wp_X4_way wp_X2_findFault wp_X2_begin
  rintro _ rfl _ rfl _ rfl
  refine ⟨82, R_ff hc hv 81 0 0 n none _ _ (by omega) (Nat.le_refl _) (Or.inr rfl) s0 (fun _ => ⟨hV.1, h8⟩) (fun q y => by cases y) (fun S1 g1 => ?_)⟩
  have orw : orW none (fw (zch L c) (stL (zch L c) c 81 0).1 n) = fw (zch L c) (stL (zch L c) c 81 0).1 n := rfl
  rw [orw]
  have lnew : ∀ S : zT, zst L c S (stL (zch L c) c 81 0).2 → (va_up S 1 (fun _ => (0 : Int32))) 0 = L 0 ∧ (va_up S 1 (fun _ => (0 : Int32))) 1 0 = 0 := fun S g => ⟨by rw [va_up_ne _ _ (by decide)]; exact g.1, by rw [va_up_self]⟩
  by_cases rr : (stL (zch L c) c 81 0).2.2 = true
  · cases hf : fw (zch L c) (stL (zch L c) c 81 0).1 n with
    | none =>
      have ea : ansF (stL (zch L c) c 81 0).2 none = 0 := by unfold ansF; rw [if_pos rr]
      rw [ea]
      have cp : 0 < c := by
        by_cases k : (stR (zch L c) 0).2 = true
        · have := stR_up k
          omega
        · exfalso
          have e : (stL (zch L c) c 81 0) = ([], stR (zch L c) 0) := stL_f k
          rw [e] at rr
          exact k rr
      refine zt rfl ?_
      unfold wp_X2_bringInto wp_X2_begin
      rintro _ rfl _ rfl
      have s1 : zst L c (va_up (va_up S1 2 (fun _ => (0 : Int32))) 3 (fun _ => (0 : Int32))) (0, true) := ⟨g1.1, g1.2.1, by rw [va_up_ne _ _ (by decide), va_up_self]; rfl, Nat.zero_le _, by rw [va_up_self]; rfl⟩
      refine ⟨82, R_bi hc hv 81 0 0 n _ N (by omega) (Nat.le_refl _) cp s1 hV.1 h8 rr hf (fun S2 T' g2 g3 => ?_)⟩
      unfold wpb_X4_way_28
      rintro _ rfl
      obtain ⟨b1, b2⟩ := lnew S2 g2
      obtain ⟨nn, hVV⟩ := apL_V _ n N T' (stL_ok 81 0) hf g3 hV
      refine ref _ (fun _ S' a1 a2 a3 a4 => rok _ S' a1 a2 a3 a4 (fun _ B hB hT => ⟨rfl, ?_⟩) (fun q e => by rw [hf] at e; cases e)) (fun o => absurd rr o)
      obtain ⟨w1, w2, w3, w4, w5, -⟩ := hB
      exact Inv_new hI (hT T' g3) hVV (fun r r1 r2 i hi => by rw [w1 r r1 r2]) w2 w3 w4 (fun p hp => w5 p (by omega)) b1 b2
    | some q =>
      have ea : ansF (stL (zch L c) c 81 0).2 (some q) = -2000 - nI q := by unfold ansF; rw [if_pos rr]
      rw [ea]
      have q80 : q < 200 := by
        have := stR_up (stL_ok 81 0 q (fw_in _ _ _ hf))
        omega
      refine zf (zwn q q80).1 ?_
      unfold wpb_X4_way_28
      rintro _ rfl
      obtain ⟨b1, b2⟩ := lnew S1 g1
      refine ref _ (fun _ S' a1 a2 a3 a4 => rok _ S' a1 a2 a3 a4 (fun e => by rw [hf] at e; cases e) (fun q' e B x hB hx h17 => ?_)) (fun o => absurd rr o)
      have eq : q' = q := by rw [hf] at e; exact (Option.some.inj e).symm
      subst eq
      obtain ⟨w1, w2, w3, w4, w5, w6, w7, w8⟩ := hB
      unfold wpb_X5_way_105
      refine M_backAll 1 (by decide) rfl (fun C hC => ?_)
      obtain ⟨y1, y2, y3, y4⟩ := hC
      rw [zcl (show x < 1000 by omega), y1 17 (by decide) (by decide) (by decide), h17]
      refine ⟨vp_in_nI hx (by decide), rfl, ?_⟩
      have c13 : C 13 0 = M 13 0 := y3.trans w7
      refine Inv_new hI (TR_pt R (fun k hk => (y2 8 (by decide) (by decide) k hk).trans (w6 8 (by decide) (by decide) k hk)) (fun r r1 r2 i hi => ?_) c13) hV (fun r r1 r2 i hi => ?_) (y4.trans w8) (fun k hk => ?_) ?_ (fun p hp => ?_) b1 b2
      · have l8 : i < zlen r := by
          rcases (show r = 1 ∨ r = 2 ∨ r = 3 ∨ r = 4 ∨ r = 5 ∨ r = 6 ∨ r = 7 by omega) with z | z | z | z | z | z | z <;> (subst z; exact hi)
        exact (y2 r r1 (by omega) i l8).trans (w6 r r1 (by omega) i l8)
      · have l8 : i < zlen r := by
          rcases (show r = 9 ∨ r = 10 ∨ r = 11 ∨ r = 12 by omega) with z | z | z | z <;> (subst z; exact hi)
        exact (y2 r (by omega) r2 i l8).trans (w6 r (by omega) r2 i l8)
      · exact (y1 k (by omega) (by omega) (by omega)).trans (w3 k hk)
      · rw [y1 19 (by decide) (by decide) (by decide)]; exact w4
      · rw [y1 22 (by decide) (by decide) (by decide)]; exact w5 p (by omega)
  · have ea : ∀ o : Option Nat, ansF (stL (zch L c) c 81 0).2 o = -1000 - nI (stL (zch L c) c 81 0).2.1 := fun o => by unfold ansF; rw [if_neg rr]
    rw [ea]
    have p80 : (stL (zch L c) c 81 0).2.1 ≤ c := g1.2.2.2.1
    refine zf (zwn _ (by omega)).2 ?_
    unfold wpb_X4_way_28
    rintro _ rfl
    obtain ⟨b1, b2⟩ := lnew S1 g1
    refine ref _ (fun o => absurd o rr) (fun _ S' a1 a2 => ?_)
    unfold wpb_X5_way_60
    rintro S2 e2
    have sj : ∀ j : Nat, (j < 16 ∨ 18 < j) → j ≠ 20 → j ≠ 21 → j ≠ 19 → S2 j = M j := fun j j1 j2 j3 j4 => by rw [e2, va_up_ne _ _ j4, a1 j j1 j2 j3]
    refine zt rfl ⟨by rw [e2, va_up_ne _ _ (by decide), a2], ?_⟩
    refine Inv_new hI (TR_pt R (fun k hk => by rw [sj 8 (by decide) (by decide) (by decide) (by decide)]) (fun r r1 r2 i hi => by rw [sj r (by omega) (by omega) (by omega) (by omega)]) (by rw [sj 13 (by decide) (by decide) (by decide) (by decide)])) hV (fun r r1 r2 i hi => by rw [sj r (by omega) (by omega) (by omega) (by omega)]) (by rw [sj 14 (by decide) (by decide) (by decide) (by decide)]) (fun k hk => sj k (by omega) (by omega) (by omega) (by omega)) (by rw [e2, va_up_self]) (fun p hp => by rw [sj 22 (by decide) (by decide) (by decide) (by decide)]) b1 b2
end OK14

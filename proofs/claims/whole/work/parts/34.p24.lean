/-! one statement is read: class and reference -/
section ST
variable {ch : Nat → Int32} {p : Nat}
theorem stR_d (h : ch p = 100) : stR ch p = zbd (dE ch p) (fS ch 59) := if_pos h
theorem stR_c (h : ch p = 99) : stR ch p = zbd (cE ch p) (fS ch 59) := by
  unfold stR
  rw [if_neg (by rw [h]; decide), if_pos h]
theorem stR_w (h : ch p = 119) : stR ch p = zbd (wE ch p) (fS ch 59) := by
  unfold stR
  rw [if_neg (by rw [h]; decide), if_neg (by rw [h]; decide), if_pos h]
theorem stR_o (h1 : ¬ ch p = 100) (h2 : ¬ ch p = 99) (h3 : ¬ ch p = 119) : stR ch p = (p, false) := by
  unfold stR
  rw [if_neg h1, if_neg h2, if_neg h3]
theorem stN_d (h : ch p = 100) (i : Nat) : stN ch p i = v1 ch (z1s ch (p + 1, true) i).1 := if_pos h
theorem stN_c0 (h : ch p = 99) : stN ch p 0 = v1 ch (p + 1) := by
  unfold stN
  rw [if_neg (by rw [h]; decide), if_pos h, if_pos rfl]
theorem stN_c1 (h : ch p = 99) : stN ch p 1 = v2 ch (z1s ch (p + 1, true) 1).1 := by
  unfold stN
  rw [if_neg (by rw [h]; decide), if_pos h, if_neg (by decide)]
theorem stN_w (h : ch p = 119) (i : Nat) : stN ch p i = if i = 0 then zIx (ch (p + 1)) else if i = 1 then v2 ch (wK ch p).1 else if i = 2 then v2 ch (wB ch p).1 else v1 ch (z1s ch (wD ch p) (i - 3)).1 := by
  unfold stN
  rw [if_neg (by rw [h]; decide), if_neg (by rw [h]; decide)]
theorem zcnt_d (h : ch p = 100) : zcnt (ch p) = 3 := by rw [h]; rfl
theorem zcnt_c (h : ch p = 99) : zcnt (ch p) = 2 := by rw [h]; rfl
theorem zcnt_w (h : ch p = 119) : zcnt (ch p) = 7 := by rw [h]; rfl
theorem f2_t (h : dg (ch p)) : f2 ch p = ((f2 ch p).1, true) := by
  unfold f2
  rw [if_pos h]
theorem f2_f (h : ¬ dg (ch p)) : f2 ch p = (p, false) := if_neg h
theorem z1s_f {r : Nat × Bool} {k : Nat} (h : ¬ (z1s ch r k).2 = true) : ∀ m : Nat, z1s ch r (k + m) = z1s ch r k := by
  intro m
  induction m with
  | zero => rfl
  | succ m ih =>
    show zbd (z1s ch r (k + m)) (f1 ch) = _
    rw [ih, zbd_n h]
theorem z1s_le {r : Nat × Bool} {k m : Nat} (hk : k ≤ m) (h : ¬ (z1s ch r k).2 = true) : z1s ch r m = z1s ch r k := by
  have := z1s_f h (m - k)
  rw [show k + (m - k) = m by omega] at this
  exact this
end ST
section RD2
variable {L : zT} {c : Nat}
theorem zst_in {S : zT} {p : Nat} (h : zst L c S (p, true)) (hp : p < c) : zst L c (va_up S 2 (fun _ => (S 2 0) + (1 : Int32))) (p + 1, true) := by
  obtain ⟨s0, s1, s2, s4, s3⟩ := h
  exact ⟨s0, s1, by rw [va_up_self, s2, nI_1], hp, s3⟩
theorem R_stm {S : zT} {p : Nat} {Q : Int32 → zT → Prop} (hc : c ≤ 80) (hv : ∀ i : Nat, i < c → ∃ v : Nat, v < 256 ∧ L 0 i = nI v) (h : zst L c S (p, true)) (q : ∀ S' : zT, zst L c S' (stR (zch L c) p) → ((stR (zch L c) p).2 = true → ∀ i : Nat, i < zcnt (zch L c p) → S' 4 i = stN (zch L c) p i) → Q (zch L c p) S') : wp_X2_readStatement S Q := by
  refine R_here hc h ⟨fun e => ?_, fun n99 => ⟨fun e => ?_, fun n100 => ⟨fun e => ?_, fun n119 => ?_⟩⟩⟩
  · have hp : p < c := zch_lt (L := L) (fun z => by rw [e] at z; exact absurd z (by decide))
    rintro _ rfl
    refine R_dig (a := 0) (m := 0) hc rfl rfl (by decide) (zst_in h hp) (fun A1 a1 _ a3 => R_num (i := 1) hc rfl (by decide) a3 (fun A2 b1 b2 b3 => ?_))
    unfold wpb_X2_readStatement_134
    refine R_sign hc (by decide) b3 (fun A3 c1 c2 => q A3 (by rw [stR_c e]; exact c2) (fun ok i hi => ?_))
    rw [stR_c e] at ok
    rw [zcnt_c e] at hi
    rw [c1]
    rcases (show i = 0 ∨ i = 1 by omega) with z | z
    · subst z
      rw [b2 0 (by decide), stN_c0 e]
      exact a1 0 (Nat.le_refl _)
    · subst z
      rw [stN_c1 e]
      exact b1 (zbd_t ok).1
  · have hp : p < c := zch_lt (L := L) (fun z => by rw [e] at z; exact absurd z (by decide))
    rintro _ rfl
    refine R_dig (a := 0) (m := 2) hc rfl rfl (by decide) (zst_in h hp) (fun A1 a1 _ a3 => ?_)
    unfold wpb_X2_readStatement_134
    refine R_sign hc (by decide) a3 (fun A3 c1 c2 => q A3 (by rw [stR_d e]; exact c2) (fun ok i hi => ?_))
    rw [zcnt_d e] at hi
    rw [c1, stN_d e]
    have := a1 i (by omega)
    rw [Nat.zero_add] at this
    exact this
  · have hp : p < c := zch_lt (L := L) (fun z => by rw [e] at z; exact absurd z (by decide))
    rintro _ rfl
    refine R_kind hc hv (zst_in h hp) (fun A0 a0 z0 => R_num (i := 1) (r := wK (zch L c) p) hc rfl (by decide) z0 (fun A1 a1 k1 z1 => R_sign (r := wA (zch L c) p) hc (by decide) z1 (fun A2 a2 z2 => R_num (i := 2) (r := wB (zch L c) p) hc rfl (by decide) z2 (fun A3 a3 k3 z3 => R_sign (r := wC (zch L c) p) hc (by decide) z3 (fun A4 a4 z4 => R_dig (a := 3) (m := 3) (r := wD (zch L c) p) hc rfl rfl (by decide) z4 (fun A5 a5 k5 z5 => ?_))))))
    unfold wpb_X2_readStatement_134
    refine R_sign hc (by decide) z5 (fun A6 c1 c2 => q A6 (by rw [stR_w e]; exact c2) (fun ok i hi => ?_))
    rw [stR_w e] at ok
    rw [zcnt_w e] at hi
    have oE := (zbd_t ok).1
    have oD : (wD (zch L c) p).2 = true := z1s_t oE 0 (Nat.zero_le _)
    have oC := (zbd_t oD).1
    have oB := (zbd_t oC).1
    have oA := (zbd_t oB).1
    rw [c1, stN_w e]
    by_cases y0 : i = 0
    · rw [if_pos y0, y0, k5 0 (Or.inl (by decide)), a4, k3 0 (by decide), a2, k1 0 (by decide), a0, pk_us]
    · rw [if_neg y0]
      by_cases y1 : i = 1
      · rw [if_pos y1, y1, k5 1 (Or.inl (by decide)), a4, k3 1 (by decide), a2, a1 oA]
      · rw [if_neg y1]
        by_cases y2 : i = 2
        · rw [if_pos y2, y2, k5 2 (Or.inl (by decide)), a4, a3 oC]
        · rw [if_neg y2]
          have := a5 (i - 3) (by omega)
          rw [show 3 + (i - 3) = i by omega] at this
          exact this
  · rintro _ rfl
    unfold wpb_X2_readStatement_134
    have hb : zst L c (va_up S 3 (fun _ => (1 : Int32))) (p, false) := by
      obtain ⟨s0, s1, s2, s4, s3⟩ := h
      exact ⟨s0, s1, s2, s4, by rw [va_up_self]; rfl⟩
    refine R_sign hc (by decide) hb (fun A c1 c2 => q A ?_ (fun ok => ?_))
    · rw [stR_o n100 n99 n119]; exact c2
    · rw [stR_o n100 n99 n119] at ok; cases ok
/-! the reference -/
def mst (L : zT) (c : Nat) (S : zT) (p : Nat) : Prop := (∀ i : Nat, i < 80 → L 0 i = S 15 i) ∧ S 19 0 = nI c ∧ S 20 0 = nI p ∧ p ≤ c
theorem mst_k {S S' : zT} {p p' : Nat} (h : mst L c S p) (h15 : S' 15 = S 15) (h19 : S' 19 = S 19) (h20 : S' 20 0 = nI p') (hp : p' ≤ c) : mst L c S' p' := by
  obtain ⟨a, b, -, -⟩ := h
  exact ⟨fun i hi => by rw [h15]; exact a i hi, by rw [h19]; exact b, h20, hp⟩
theorem M_nxt {S : zT} {p : Nat} {Q : Int32 → Prop} (hc : c ≤ 80) (h : mst L c S p) (q : Q (zch L c p)) : wp_X5_next S Q := by
  obtain ⟨a, b, d, e⟩ := h
  unfold wp_X5_next
  rw [b, d]
  by_cases z : p < c
  · refine zf (nI_ge z (by omega)) ⟨vp_in_nI (by omega) (by decide), ?_⟩
    unfold zch at q
    rw [if_pos z, a p (by omega)] at q
    rw [zcl (by omega)]
    exact q
  · unfold zch at q
    rw [if_neg z] at q
    exact zt (nI_le (by omega) (by omega)) q
theorem M_isn {S : zT} {p : Nat} {s : Int32} {Q : Int32 → zT → Prop} (hc : c ≤ 80) (hs : ¬ s = -1) (h : mst L c S p) (q1 : zch L c p = s → ∀ S' : zT, (∀ j : Nat, j ≠ 20 → S' j = S j) → mst L c S' (p + 1) → Q 1 S') (q0 : ¬ zch L c p = s → Q 0 S) : wp_X5_isNext s S Q := by
  refine M_nxt hc h ⟨fun e => ?_, fun e => q0 e⟩
  rintro _ rfl
  refine q1 e _ (fun j hj => va_up_ne _ _ hj) (mst_k h rfl rfl ?_ ?_)
  · rw [va_up_self, h.2.2.1, nI_1]
  · exact zch_lt (L := L) (fun z => hs (e.symm.trans z))
theorem M_r70 {S S0 : zT} {a p : Nat} {x : Int32} {i2 : Int32} {Q : Int32 → zT → Prop} (ha : a < 320) (h : mst L c S p) (hS : ∀ j : Nat, j ≠ 20 → S j = S0 j) (q : ∀ S' : zT, (∀ j : Nat, j ≠ 18 → j ≠ 20 → S' j = S0 j) → S' 18 = upd (S0 18) a x → mst L c S' p → Q 1 S') : wpb_X5_reads_70 (nI a) i2 Q x S := by
  unfold wpb_X5_reads_70
  refine ⟨vp_in_nI ha (by decide), ?_⟩
  rw [zcl (by omega)]
  rintro _ rfl
  refine q _ (fun j j1 j2 => by rw [va_up_ne _ _ j1]; exact hS j j2) (by rw [va_up_self, hS 18 (by decide)]) (mst_k h rfl rfl h.2.2.1 h.2.2.2)
theorem M_step {S : zT} {p : Nat} (h : mst L c S p) (hp : p < c) : mst L c (va_up S 20 (fun _ => (S 20 0) + (1 : Int32))) (p + 1) := mst_k h rfl rfl (by rw [va_up_self, h.2.2.1, nI_1]) hp
theorem zdI {x : Int32} {Q : Int32 → Prop} (q1 : dg x → Q 1) (q0 : ¬ dg x → Q 0) : wp_X5_isIn x 48 57 Q := by
  by_cases d : dg x
  · exact I1 d.1 d.2 (q1 d)
  · refine I0 ?_ (q0 d)
    by_cases a : x < 48
    · exact Or.inl a
    · by_cases b : 57 < x
      · exact Or.inr b
      · exact absurd ⟨a, b⟩ d
theorem zv10 (x : Int32) : (10 : Int32) * 0 + x - 48 = x - 48 := by
  rw [show (10 : Int32) * 0 = 0 from rfl, Int32.zero_add]
theorem M_rd1 {S : zT} {a p : Nat} {Q : Int32 → zT → Prop} (hc : c ≤ 80) (ha : a < 320) (h : mst L c S p) (q1 : dg (zch L c p) → ∀ S' : zT, (∀ j : Nat, j ≠ 18 → j ≠ 20 → S' j = S j) → S' 18 = upd (S 18) a (v1 (zch L c) p) → mst L c S' (p + 1) → Q 1 S') (q0 : ¬ dg (zch L c p) → Q 0 S) : wp_X5_reads (nI a) 1 S Q := by
  refine M_nxt hc h (zdI (fun d => zf (by decide) ⟨2, ?_⟩) (fun d => zt rfl (q0 d)))
  refine zf (by decide) (M_nxt hc h (zdI (fun _ => zf (by decide) (M_nxt hc h ?_)) (fun n => absurd d n)))
  rintro _ rfl _ rfl _ rfl
  rw [zv10]
  exact zt (by decide) (M_r70 ha (M_step h (zch_dg d)) (fun j hj => va_up_ne _ _ hj) (fun S' b1 b2 b3 => q1 d S' b1 b2 b3))
theorem M_rd2 {S : zT} {a p : Nat} {Q : Int32 → zT → Prop} (hc : c ≤ 80) (ha : a < 320) (h : mst L c S p) (q1 : dg (zch L c p) → ∀ S' : zT, (∀ j : Nat, j ≠ 18 → j ≠ 20 → S' j = S j) → S' 18 = upd (S 18) a (v2 (zch L c) p) → mst L c S' (f2 (zch L c) p).1 → Q 1 S') (q0 : ¬ dg (zch L c p) → Q 0 S) : wp_X5_reads (nI a) 2 S Q := by
  refine M_nxt hc h (zdI (fun d => zf (by decide) ⟨3, ?_⟩) (fun d => zt rfl (q0 d)))
  refine zf (by decide) (M_nxt hc h (zdI (fun _ => zf (by decide) (M_nxt hc h ?_)) (fun n => absurd d n)))
  rintro _ rfl _ rfl _ rfl
  rw [zv10]
  have h2 := M_step h (zch_dg d)
  refine zf (by decide) (M_nxt hc h2 (zdI (fun d2 => zf (by decide) (M_nxt hc h2 ?_)) (fun d2 => zt rfl ?_)))
  · rintro _ rfl _ rfl _ rfl
    have e2 : (f2 (zch L c) p).1 = p + 1 + 1 := by unfold f2; rw [if_pos d, if_pos d2]
    have ev : (10 : Int32) * (zch L c p - 48) + zch L c (p + 1) - 48 = v2 (zch L c) p := by
      unfold v2
      rw [if_pos d2, Int32.mul_comm]
    rw [ev]
    refine zt (by decide) (M_r70 ha (M_step h2 (zch_dg d2)) (fun j hj => by rw [va_up_ne _ _ hj, va_up_ne _ _ hj]) (fun S' b1 b2 b3 => q1 d S' b1 b2 ?_))
    rw [e2]
    exact b3
  · have e2 : (f2 (zch L c) p).1 = p + 1 := by unfold f2; rw [if_pos d, if_neg d2]
    have ev : zch L c p - 48 = v2 (zch L c) p := by
      unfold v2
      rw [if_neg d2]
    rw [ev]
    refine M_r70 ha h2 (fun j hj => va_up_ne _ _ hj) (fun S' b1 b2 b3 => q1 d S' b1 b2 ?_)
    rw [e2]
    exact b3
theorem M_ones {S : zT} {a m p : Nat} {Q : Int32 → zT → Prop} (hc : c ≤ 80) (ha : a + m ≤ 320) (h : mst L c S p)
    (q1 : (z1s (zch L c) (p, true) m).2 = true → ∀ S' : zT, (∀ j : Nat, j ≠ 18 → j ≠ 20 → S' j = S j) → (∀ j : Nat, j < m → S' 18 (a + j) = v1 (zch L c) (z1s (zch L c) (p, true) j).1) → (∀ i : Nat, (i < a ∨ a + m ≤ i) → S' 18 i = S 18 i) → mst L c S' (z1s (zch L c) (p, true) m).1 → Q 1 S')
    (q0 : ¬ (z1s (zch L c) (p, true) m).2 = true → ∀ S' : zT, (∀ j : Nat, j ≠ 18 → j ≠ 20 → S' j = S j) → mst L c S' (z1s (zch L c) (p, true) m).1 → Q 0 S') : wp_X5_readsOnes (nI a) (nI m) S Q := by
  have key : ∀ (x k : Nat) (A : zT), k + x = m → (z1s (zch L c) (p, true) k).2 = true → (∀ j : Nat, j ≠ 18 → j ≠ 20 → A j = S j) → (∀ j : Nat, j < k → A 18 (a + j) = v1 (zch L c) (z1s (zch L c) (p, true) j).1) → (∀ i : Nat, (i < a ∨ a + k ≤ i) → A 18 i = S 18 i) → mst L c A (z1s (zch L c) (p, true) k).1 → wpl_X5_readsOnes_2 (nI a) (nI m) Q (x + 1) (nI k) A := by
    intro x
    induction x with
    | zero =>
      intro k A hk h0 h1 h2 h3 h4
      obtain rfl : k = m := by omega
      exact zt (Int32.le_refl _) (q1 h0 A h1 h2 h3 h4)
    | succ x ih =>
      intro k A hk h0 h1 h2 h3 h4
      refine zf (nI_ge (by omega) (by omega)) ?_
      rw [nI_add]
      have ek : z1s (zch L c) (p, true) (k + 1) = f1 (zch L c) (z1s (zch L c) (p, true) k).1 := zbd_y h0
      refine M_rd1 (a := a + k) hc (by omega) h4 (fun d A' g1 g2 g3 => zf (by decide) ?_) (fun d => zt rfl ?_)
      · rintro _ rfl
        rw [show nI k + (1 : Int32) = nI (k + 1) from nI_1 k]
        have e1 : z1s (zch L c) (p, true) (k + 1) = ((z1s (zch L c) (p, true) k).1 + 1, true) := by
          rw [ek]; unfold f1; rw [if_pos d]
        refine ih (k + 1) A' (by omega) (by rw [e1]) (fun j j1 j2 => (g1 j j1 j2).trans (h1 j j1 j2)) (fun j hj => ?_) (fun i hi => ?_) (by rw [e1]; exact g3)
        · rw [g2]
          by_cases z : j = k
          · subst z; rw [pk_us]
          · rw [pk_un (by omega)]; exact h2 j (by omega)
        · rw [g2, pk_un (by omega)]
          exact h3 i (by omega)
      · have e1 : z1s (zch L c) (p, true) (k + 1) = ((z1s (zch L c) (p, true) k).1, false) := by
          rw [ek]; unfold f1; rw [if_neg d]
        have nb : ¬ (z1s (zch L c) (p, true) (k + 1)).2 = true := by rw [e1]; exact fun z => by cases z
        have e2 := z1s_le (m := m) (show k + 1 ≤ m by omega) nb
        refine q0 (by rw [e2]; exact nb) A h1 ?_
        rw [e2, e1]
        exact h4
  exact ⟨m + 1, key m 0 S (by omega) rfl (fun _ _ _ => rfl) (fun j hj => absurd hj (Nat.not_lt_zero j)) (fun _ _ => rfl) h⟩
theorem M_kOf {x : Int32} {Q : Int32 → Prop} (q : Q (zIx x)) : wp_X5_kindOf x Q := by
  refine ⟨fun e => by subst e; exact q, fun n98 => ⟨fun e => by subst e; exact q, fun n99 => ⟨fun e => by subst e; exact q, fun n100 => ⟨fun e => by subst e; exact q, fun n101 => ⟨fun e => by subst e; exact q, fun n102 => ⟨fun e => by subst e; exact q, fun n103 => ⟨fun e => by subst e; exact q, fun n104 => ⟨fun e => by subst e; exact q, fun n105 => ⟨fun e => by subst e; exact q, fun n106 => ⟨fun e => by subst e; exact q, fun n107 => ⟨fun e => by subst e; exact q, fun n108 => ⟨fun e => by subst e; exact q, fun n109 => ⟨fun e => by subst e; exact q, fun n110 => ⟨fun e => by subst e; exact q, fun n111 => ⟨fun e => by subst e; exact q, fun n112 => ⟨fun e => by subst e; exact q, fun n113 => ⟨fun e => by subst e; exact q, fun n114 => ?_⟩⟩⟩⟩⟩⟩⟩⟩⟩⟩⟩⟩⟩⟩⟩⟩⟩
  unfold zIx at q
  rw [if_neg n112, if_neg n114, if_neg n104, if_neg n98, if_neg n99, if_neg n111] at q
  exact q
theorem M_wk {S : zT} {a p : Nat} {Q : Int32 → zT → Prop} (hc : c ≤ 80) (ha : a + 7 ≤ 320) (h : mst L c S (p + 1))
    (q1 : (wE (zch L c) p).2 = true → ∀ S' : zT, (∀ j : Nat, j ≠ 18 → j ≠ 20 → S' j = S j) → (∀ i : Nat, i < 7 → S' 18 (a + i) = if i = 0 then zIx (zch L c (p + 1)) else if i = 1 then v2 (zch L c) (wK (zch L c) p).1 else if i = 2 then v2 (zch L c) (wB (zch L c) p).1 else v1 (zch L c) (z1s (zch L c) (wD (zch L c) p) (i - 3)).1) → (∀ i : Nat, i < a → S' 18 i = S 18 i) → mst L c S' (wE (zch L c) p).1 → Q 1 S')
    (q0 : ¬ (wE (zch L c) p).2 = true → ∀ S' : zT, (∀ j : Nat, j ≠ 18 → j ≠ 20 → S' j = S j) → mst L c S' (wE (zch L c) p).1 → Q 0 S') : wp_X5_readsWalker (nI a) S Q := by
  refine M_nxt hc h (M_kOf ⟨vp_in_nI (by omega) (by decide), ?_⟩)
  rw [zcl (by omega)]
  rintro S1 e1
  have k1 : ∀ j : Nat, j ≠ 18 → S1 j = S j := fun j hj => by rw [e1, va_up_ne _ _ hj]
  have s18 : S1 18 = upd (S 18) a (zIx (zch L c (p + 1))) := by rw [e1, va_up_self]
  have m1 : mst L c S1 (p + 1) := mst_k h (k1 15 (by decide)) (k1 19 (by decide)) (by rw [k1 20 (by decide)]; exact h.2.2.1) h.2.2.2
  refine ⟨vp_in_nI (by omega) (by decide), ?_⟩
  rw [s18, pk_us]
  refine ⟨fun hk => ?_, fun hk => ?_⟩
  · have eK : wK (zch L c) p = (p + 2, true) := by unfold wK fK; rw [if_pos hk]
    have hp : p + 1 < c := zch_lt (L := L) (fun z => by rw [z] at hk; exact absurd hk (by decide))
    rintro S2 e2
    have k2 : ∀ j : Nat, j ≠ 18 → j ≠ 20 → S2 j = S j := fun j j1 j2 => by rw [e2, va_up_ne _ _ j2, k1 j j1]
    have t18 : S2 18 = upd (S 18) a (zIx (zch L c (p + 1))) := by rw [e2, va_up_ne _ _ (by decide), s18]
    have m2 : mst L c S2 (p + 2) := by rw [e2]; exact M_step m1 hp
    rw [show nI a + (1 : Int32) = nI (a + 1) from nI_1 a, show nI a + (2 : Int32) = nI (a + 2) from nI_add a 2, show nI a + (3 : Int32) = nI (a + 3) from nI_add a 3]
    refine M_rd2 hc (by omega) m2 (fun dA S3 k3 u3 m3 => zf (by decide) ?_) (fun dA => zt rfl ?_)
    · have eA : wA (zch L c) p = ((f2 (zch L c) (p + 2)).1, true) := by
        unfold wA; rw [eK, zbd_1]; unfold f2; rw [if_pos dA]
      refine M_isn hc (by decide) m3 (fun gB S4 k4 m4 => zf (by decide) ?_) (fun gB => zt rfl ?_)
      · have eB : wB (zch L c) p = ((f2 (zch L c) (p + 2)).1 + 1, true) := by
          unfold wB; rw [eA, zbd_1]; unfold fS; rw [if_pos gB]
        refine M_rd2 hc (by omega) m4 (fun dC S5 k5 u5 m5 => zf (by decide) ?_) (fun dC => zt rfl ?_)
        · have eC : wC (zch L c) p = ((f2 (zch L c) ((f2 (zch L c) (p + 2)).1 + 1)).1, true) := by
            unfold wC; rw [eB, zbd_1]; exact f2_t dC
          refine M_isn hc (by decide) m5 (fun gD S6 k6 m6 => zf (by decide) ?_) (fun gD => zt rfl ?_)
          · have eD : wD (zch L c) p = ((f2 (zch L c) ((f2 (zch L c) (p + 2)).1 + 1)).1 + 1, true) := by
              unfold wD; rw [eC, zbd_1]; unfold fS; rw [if_pos gD]
            have kk : ∀ j : Nat, j ≠ 18 → j ≠ 20 → S6 j = S j := fun j j1 j2 => by rw [k6 j j2, k5 j j1 j2, k4 j j2, k3 j j1 j2, k2 j j1 j2]
            have x18 : S6 18 = upd (upd (upd (S 18) a (zIx (zch L c (p + 1)))) (a + 1) (v2 (zch L c) (p + 2))) (a + 2) (v2 (zch L c) ((f2 (zch L c) (p + 2)).1 + 1)) := by
              rw [k6 18 (by decide), u5, k4 18 (by decide), u3, t18]
            refine M_ones (m := 4) hc (by omega) m6 (fun ok S7 k7 u7 w7 m7 => ?_) (fun ok S7 k7 m7 => zt rfl ?_)
            · refine zf (by decide) (q1 ?_ S7 (fun j j1 j2 => (k7 j j1 j2).trans (kk j j1 j2)) (fun i hi => ?_) (fun i hi => ?_) ?_)
              · unfold wE; rw [eD]; exact ok
              · by_cases y0 : i = 0
                · rw [if_pos y0, y0, w7 _ (Or.inl (by omega)), x18, pk_un (by omega), pk_un (by omega), Nat.add_zero a, pk_us]
                · rw [if_neg y0]
                  by_cases y1 : i = 1
                  · rw [if_pos y1, y1, w7 _ (Or.inl (by omega)), x18, pk_un (by omega), pk_us, eK]
                  · rw [if_neg y1]
                    by_cases y2 : i = 2
                    · rw [if_pos y2, y2, w7 _ (Or.inl (by omega)), x18, pk_us, eB]
                    · rw [if_neg y2, eD]
                      have := u7 (i - 3) (by omega)
                      rw [show a + 3 + (i - 3) = a + i by omega] at this
                      exact this
              · rw [w7 i (Or.inl (by omega)), x18, pk_un (by omega), pk_un (by omega), pk_un (by omega)]
              · unfold wE; rw [eD]; exact m7
            · refine q0 ?_ S7 (fun j j1 j2 => (k7 j j1 j2).trans (kk j j1 j2)) ?_
              · unfold wE; rw [eD]; exact ok
              · unfold wE; rw [eD]; exact m7
          · have e9 : wE (zch L c) p = ((f2 (zch L c) ((f2 (zch L c) (p + 2)).1 + 1)).1, false) := by
              unfold wE wD; rw [eC, zbd_1]; unfold fS; rw [if_neg gD]; rfl
            rw [e9] at q0
            exact q0 (fun z => by cases z) S5 (fun j j1 j2 => by rw [k5 j j1 j2, k4 j j2, k3 j j1 j2, k2 j j1 j2]) m5
        · have e9 : wE (zch L c) p = ((f2 (zch L c) (p + 2)).1 + 1, false) := by
            unfold wE wD wC; rw [eB, zbd_1, f2_f dC]; rfl
          rw [e9] at q0
          exact q0 (fun z => by cases z) S4 (fun j j1 j2 => by rw [k4 j j2, k3 j j1 j2, k2 j j1 j2]) m4
      · have e9 : wE (zch L c) p = ((f2 (zch L c) (p + 2)).1, false) := by
          unfold wE wD wC wB; rw [eA, zbd_1]; unfold fS; rw [if_neg gB]; rfl
        rw [e9] at q0
        exact q0 (fun z => by cases z) S3 (fun j j1 j2 => by rw [k3 j j1 j2, k2 j j1 j2]) m3
    · have e9 : wE (zch L c) p = (p + 2, false) := by
        unfold wE wD wC wB wA; rw [eK, zbd_1]; unfold f2; rw [if_neg dA]; rfl
      rw [e9] at q0
      exact q0 (fun z => by cases z) S2 k2 m2
  · have e9 : wE (zch L c) p = (p + 1, false) := by
      unfold wE wD wC wB wA wK fK; rw [if_neg hk]; rfl
    rw [e9] at q0
    exact q0 (fun z => by cases z) S1 (fun j j1 _ => k1 j j1) m1
theorem M_stm {S : zT} {k p : Nat} {Q : Int32 → zT → Prop} (hc : c ≤ 80) (hk : k < 40) (h21 : S 21 0 = nI k) (h : mst L c S p)
    (q1 : (stR (zch L c) p).2 = true → ∀ S' : zT, (∀ j : Nat, (j < 16 ∨ 18 < j) → j ≠ 20 → S' j = S j) → S' 16 = upd (S 16) k (zch L c p) → S' 17 = upd (S 17) k (nI p) → (∀ i : Nat, i < zcnt (zch L c p) → S' 18 (8 * k + i) = stN (zch L c) p i) → (∀ i : Nat, i < 8 * k → S' 18 i = S 18 i) → mst L c S' (stR (zch L c) p).1 → Q 1 S')
    (q0 : ¬ (stR (zch L c) p).2 = true → ∀ S' : zT, (∀ j : Nat, (j < 16 ∨ 18 < j) → j ≠ 20 → S' j = S j) → mst L c S' (stR (zch L c) p).1 → Q 0 S') : wp_X5_statement S Q := by
  have fin : ∀ (A : zT) (r : Nat × Bool), stR (zch L c) p = zbd r (fS (zch L c) 59) → r.2 = true → mst L c A r.1 → (∀ j : Nat, (j < 16 ∨ 18 < j) → j ≠ 20 → A j = S j) → A 16 = upd (S 16) k (zch L c p) → A 17 = upd (S 17) k (nI p) → (∀ i : Nat, i < zcnt (zch L c p) → A 18 (8 * k + i) = stN (zch L c) p i) → (∀ i : Nat, i < 8 * k → A 18 i = S 18 i) → wpb_X5_statement_120 Q 1 A := by
    intro A r er hr hm hA h16 h17 h18 h18'
    rw [zbd_y hr] at er
    unfold wpb_X5_statement_120
    refine zf (by decide) (M_isn hc (by decide) hm (fun g A' k1 m1 => zf (by decide) ?_) (fun g => zt rfl ?_))
    · have e : stR (zch L c) p = (r.1 + 1, true) := by rw [er]; unfold fS; rw [if_pos g]
      refine q1 (by rw [e]) A' (fun j j1 j2 => (k1 j j2).trans (hA j j1 j2)) ((k1 16 (by decide)).trans h16) ((k1 17 (by decide)).trans h17) (fun i hi => by rw [k1 18 (by decide)]; exact h18 i hi) (fun i hi => by rw [k1 18 (by decide)]; exact h18' i hi) (by rw [e]; exact m1)
    · have e : stR (zch L c) p = (r.1, false) := by rw [er]; unfold fS; rw [if_neg g]
      exact q0 (by rw [e]; exact fun z => by cases z) A hA (by rw [e]; exact hm)
  have bad : ∀ (A : zT) (r : Nat × Bool), stR (zch L c) p = zbd r (fS (zch L c) 59) → ¬ r.2 = true → mst L c A r.1 → (∀ j : Nat, (j < 16 ∨ 18 < j) → j ≠ 20 → A j = S j) → wpb_X5_statement_120 Q 0 A := by
    intro A r er hr hm hA
    rw [zbd_n hr] at er
    unfold wpb_X5_statement_120
    exact zt rfl (q0 (by rw [er]; exact hr) A hA (by rw [er]; exact hm))
  have e20 : S 20 0 = nI p := h.2.2.1
  have go : (zch L c p = 100 ∨ zch L c p = 99 ∨ zch L c p = 119) → wpb_X5_statement_25 Q (zch L c p) S := by
    intro hb
    have hp : p < c := zch_lt (L := L) (fun z => by rw [z] at hb; revert hb; decide)
    unfold wpb_X5_statement_25
    rw [h21, zcl (show k < 1000 by omega)]
    refine ⟨vp_in_nI hk (by decide), ?_⟩
    rintro S1 e1
    have e1_21 : S1 21 0 = nI k := by rw [e1, va_up_ne _ _ (by decide), h21]
    rw [e1_21, zcl (show k < 1000 by omega)]
    refine ⟨vp_in_nI hk (by decide), ?_⟩
    rintro S2 e2 S3 e3
    have e3_21 : S3 21 0 = nI k := by rw [e3, va_up_ne _ _ (by decide), e2, va_up_ne _ _ (by decide), e1_21]
    have hj : ∀ j : Nat, (j < 16 ∨ 18 < j) → j ≠ 20 → S3 j = S j := fun j j1 j2 => by rw [e3, va_up_ne _ _ j2, e2, va_up_ne _ _ (by omega), e1, va_up_ne _ _ (by omega)]
    have h16 : S3 16 = upd (S 16) k (zch L c p) := by rw [e3, va_up_ne _ _ (by decide), e2, va_up_ne _ _ (by decide), e1, va_up_self]
    have h17 : S3 17 = upd (S 17) k (nI p) := by rw [e3, va_up_ne _ _ (by decide), e2, va_up_self, e1, va_up_ne _ _ (by decide), va_up_ne _ _ (by decide), e20]
    have h18 : S3 18 = S 18 := by rw [e3, va_up_ne _ _ (by decide), e2, va_up_ne _ _ (by decide), e1, va_up_ne _ _ (by decide)]
    have hm : mst L c S3 (p + 1) := mst_k h (hj 15 (by decide) (by decide)) (hj 19 (by decide) (by decide)) (by rw [e3, va_up_self, e2, va_up_ne _ _ (by decide), e1, va_up_ne _ _ (by decide), e20, nI_1]) hp
    rintro y ey
    obtain rfl : y = nI (8 * k) := by
      rw [ey, e3_21, show (8 : Int32) = nI 8 from rfl, pk_mul]
    have keep : ∀ A : zT, (∀ j : Nat, j ≠ 18 → j ≠ 20 → A j = S3 j) → ∀ j : Nat, (j < 16 ∨ 18 < j) → j ≠ 20 → A j = S j := fun A hA j j1 j2 => (hA j (by omega) j2).trans (hj j j1 j2)
    refine ⟨fun e => ?_, fun n100 => ⟨fun e => ?_, fun n99 => ?_⟩⟩
    · refine M_ones (m := 3) hc (by omega) hm (fun ok A k1 u1 w1 m1 => fin A (dE (zch L c) p) (stR_d e) ok m1 (keep A k1) ((k1 16 (by decide) (by decide)).trans h16) ((k1 17 (by decide) (by decide)).trans h17) (fun i hi => ?_) (fun i hi => ?_)) (fun ok A k1 m1 => bad A (dE (zch L c) p) (stR_d e) ok m1 (keep A k1))
      · rw [zcnt_d e] at hi
        rw [stN_d e]
        exact u1 i hi
      · rw [w1 i (Or.inl hi), h18]
    · refine M_rd1 hc (by omega) hm (fun d A k1 u1 m1 => zf (by decide) ?_) (fun d => zt rfl ?_)
      · have e0 : z1s (zch L c) (p + 1, true) 1 = (p + 2, true) := by
          show zbd (p + 1, true) (f1 (zch L c)) = _
          rw [zbd_1]; unfold f1; rw [if_pos d]
        rw [show nI (8 * k) + (1 : Int32) = nI (8 * k + 1) from nI_1 (8 * k)]
        refine M_rd2 hc (by omega) m1 (fun d2 B k2 u2 m2 => zf (by decide) ?_) (fun d2 => zt rfl ?_)
        · have e9 : cE (zch L c) p = ((f2 (zch L c) (p + 2)).1, true) := by
            unfold cE; rw [e0, zbd_1]; unfold f2; rw [if_pos d2]
          refine fin B (cE (zch L c) p) (stR_c e) (by rw [e9]) (by rw [e9]; exact m2) (keep B (fun j j1 j2 => (k2 j j1 j2).trans (k1 j j1 j2))) ?_ ?_ (fun i hi => ?_) (fun i hi => ?_)
          · rw [k2 16 (by decide) (by decide), k1 16 (by decide) (by decide), h16]
          · rw [k2 17 (by decide) (by decide), k1 17 (by decide) (by decide), h17]
          · rw [zcnt_c e] at hi
            rcases (show i = 0 ∨ i = 1 by omega) with z | z
            · subst z
              rw [stN_c0 e, u2, pk_un (by omega), u1, Nat.add_zero (8 * k), pk_us]
            · subst z
              rw [stN_c1 e, u2, pk_us, e0]
          · rw [u2, pk_un (by omega), u1, pk_un (by omega), h18]
        · have e9 : cE (zch L c) p = (p + 2, false) := by
            unfold cE; rw [e0, zbd_1]; unfold f2; rw [if_neg d2]
          unfold wpb_X5_statement_111
          exact bad A (cE (zch L c) p) (stR_c e) (by rw [e9]; exact fun z => by cases z) (by rw [e9]; exact m1) (keep A k1)
      · have e9 : cE (zch L c) p = (p + 1, false) := by
          unfold cE
          show zbd (zbd (p + 1, true) (f1 (zch L c))) _ = _
          rw [zbd_1]; unfold f1; rw [if_neg d]; rfl
        unfold wpb_X5_statement_111
        exact bad S3 (cE (zch L c) p) (stR_c e) (by rw [e9]; exact fun z => by cases z) (by rw [e9]; exact hm) (keep S3 (fun _ _ _ => rfl))
    · have e : zch L c p = 119 := by
        rcases hb with hb | hb | hb
        · exact absurd hb n100
        · exact absurd hb n99
        · exact hb
      refine M_wk hc (by omega) hm (fun ok A k1 u1 w1 m1 => fin A (wE (zch L c) p) (stR_w e) ok m1 (keep A k1) ((k1 16 (by decide) (by decide)).trans h16) ((k1 17 (by decide) (by decide)).trans h17) (fun i hi => ?_) (fun i hi => ?_)) (fun ok A k1 m1 => bad A (wE (zch L c) p) (stR_w e) ok m1 (keep A k1))
      · rw [zcnt_w e] at hi
        rw [stN_w e]
        exact u1 i hi
      · rw [w1 i hi, h18]
  refine M_nxt hc h ⟨fun e => go (Or.inl e), fun n100 => ⟨fun e => go (Or.inr (Or.inl e)), fun n99 => ⟨fun e => go (Or.inr (Or.inr e)), fun n119 => ?_⟩⟩⟩
  have e := stR_o n100 n99 n119
  exact q0 (by rw [e]; exact fun z => by cases z) S (fun _ _ _ => rfl) (by rw [e]; exact h)
end RD2

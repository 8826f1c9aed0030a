/-! all rows are kept and put back; the image -/
def zoff : Nat → Nat
  | 1 => 0 | 2 => 8 | 3 => 16 | 4 => 24 | 5 => 32 | 6 => 40 | 7 => 48 | 8 => 56 | 9 => 61 | 10 => 71 | 11 => 81 | 12 => 91 | 13 => 101 | _ => 0
def zlen : Nat → Nat
  | 8 => 5 | 9 => 10 | 10 => 10 | 11 => 10 | 12 => 10 | _ => 8
theorem zoff_S : ∀ t, t < 13 → 1 ≤ t → zoff t + zlen t = zoff (t + 1) := by decide
theorem zoff_lt : ∀ t, t < 14 → ∀ j, j < t → 1 ≤ j → zoff j + zlen j ≤ zoff t := by decide
theorem zoff_le : ∀ t, t < 14 → zoff t ≤ 101 := by decide
def zKp (b : Nat) (S A : zT) (t : Nat) : Prop := (∀ j : Nat, j ≠ 22 → j ≠ 25 → A j = S j) ∧ (∀ r : Nat, 1 ≤ r → r < t → ∀ i : Nat, i < zlen r → A 22 (b + zoff r + i) = S r i) ∧ ∀ p : Nat, (p < b ∨ b + zoff t ≤ p) → A 22 p = S 22 p
theorem zKp_S {b t : Nat} {S A A' : zT} (h1 : 1 ≤ t) (h13 : t < 13) (h : zKp b S A t) (hj : ∀ j : Nat, j ≠ 22 → j ≠ 25 → A' j = A j) (hc : A' 22 = zcp (A t) (A 22) (b + zoff t) (zlen t)) : zKp b S A' (t + 1) := by
  obtain ⟨a1, a2, a3⟩ := h
  refine ⟨fun j q1 q2 => (hj j q1 q2).trans (a1 j q1 q2), fun r r1 r2 i hi => ?_, fun p hp => ?_⟩
  · rw [hc]
    by_cases z : r = t
    · subst z
      show (if b + zoff r ≤ b + zoff r + i ∧ b + zoff r + i < b + zoff r + zlen r then A r (b + zoff r + i - (b + zoff r)) else A 22 (b + zoff r + i)) = S r i
      rw [if_pos (by omega), show b + zoff r + i - (b + zoff r) = i by omega, a1 r (by omega) (by omega)]
    · have := zoff_lt t (by omega) r (by omega) r1
      show (if b + zoff t ≤ b + zoff r + i ∧ b + zoff r + i < b + zoff t + zlen t then A t (b + zoff r + i - (b + zoff t)) else A 22 (b + zoff r + i)) = S r i
      rw [if_neg (by omega)]
      exact a2 r r1 (by omega) i hi
  · have := zoff_S t h13 h1
    rw [hc]
    show (if b + zoff t ≤ p ∧ p < b + zoff t + zlen t then A t (p - (b + zoff t)) else A 22 p) = S 22 p
    rw [if_neg (by omega)]
    exact a3 p (by omega)
def zBp (b : Nat) (S A : zT) (t : Nat) : Prop := (∀ j : Nat, ¬ (1 ≤ j ∧ j < t) → j ≠ 25 → A j = S j) ∧ ∀ r : Nat, 1 ≤ r → r < t → ∀ i : Nat, i < zlen r → A r i = S 22 (b + zoff r + i)
theorem zBp_S {b t : Nat} {S A A' : zT} (h1 : 1 ≤ t) (h13 : t < 13) (h : zBp b S A t) (hj : ∀ j : Nat, j ≠ t → j ≠ 25 → A' j = A j) (hc : A' t = zba (A 22) (A t) (b + zoff t) (zlen t)) : zBp b S A' (t + 1) := by
  obtain ⟨a1, a2⟩ := h
  refine ⟨fun j q1 q2 => (hj j (by omega) q2).trans (a1 j (by omega) q2), fun r r1 r2 i hi => ?_⟩
  by_cases z : r = t
  · subst z
    rw [hc]
    show (if i < zlen r then A 22 (b + zoff r + i) else A r i) = _
    rw [if_pos hi, a1 22 (by omega) (by decide)]
  · rw [hj r z (by omega)]
    exact a2 r r1 (by omega) i hi
section ONE
variable {S : zT} {v : Int32} {c : Nat} {Q : Int32 → zT → Prop}
theorem M_one_keep (h24 : ¬ S 24 0 = 0) (h25 : S 25 0 = nI c) (hc : c < 220) (h : ∀ A : zT, (∀ j : Nat, j ≠ 22 → j ≠ 25 → A j = S j) → A 22 = upd (S 22) c v → A 25 0 = nI (c + 1) → Q v A) : wp_X5_passOne v S Q := by
  refine zf h24 ?_
  unfold wpb_X5_passOne_20
  refine zf h24 ?_
  rw [h25, zcl (by omega)]
  refine ⟨vp_in_nI hc (by decide), ?_⟩
  rintro _ rfl
  unfold wpb_X5_passOne_38
  rintro _ rfl
  refine h _ (fun j q1 q2 => by rw [va_up_ne _ _ q2, va_up_ne _ _ q1]) (by rw [va_up_ne _ _ (by decide), va_up_self]) ?_
  rw [va_up_self, va_up_ne _ _ (by decide), h25, nI_1]
theorem M_one_back (h24 : S 24 0 = 0) (h25 : S 25 0 = nI c) (hc : c < 220) (h : ∀ A : zT, (∀ j : Nat, j ≠ 25 → A j = S j) → A 25 0 = nI (c + 1) → Q (S 22 c) A) : wp_X5_passOne v S Q := by
  refine zt h24 ?_
  rw [h25, zcl (by omega)]
  refine ⟨vp_in_nI hc (by decide), ?_⟩
  unfold wpb_X5_passOne_20
  refine zt h24 ?_
  unfold wpb_X5_passOne_38
  rintro _ rfl
  refine h _ (fun j q1 => by rw [va_up_ne _ _ q1]) ?_
  rw [va_up_self, h25, nI_1]
end ONE
def zKept (b : Nat) (S A : zT) : Prop := (∀ j : Nat, (j < 13 ∨ 14 < j) → j ≠ 22 → j ≠ 24 → j ≠ 25 → A j = S j) ∧ A 13 0 = S 13 0 ∧ A 14 0 = S 14 0 ∧ (∀ r : Nat, 1 ≤ r → r < 13 → ∀ i : Nat, i < zlen r → A 22 (b + zoff r + i) = S r i) ∧ A 22 (b + 101) = S 13 0 ∧ A 22 (b + 102) = S 14 0 ∧ ∀ p : Nat, (p < b ∨ b + 103 ≤ p) → A 22 p = S 22 p
def zBack (b : Nat) (S A : zT) : Prop := (∀ j : Nat, (j < 1 ∨ 14 < j) → j ≠ 24 → j ≠ 25 → A j = S j) ∧ (∀ r : Nat, 1 ≤ r → r < 13 → ∀ i : Nat, i < zlen r → A r i = S 22 (b + zoff r + i)) ∧ A 13 0 = S 22 (b + 101) ∧ A 14 0 = S 22 (b + 102)
theorem zwh : ∀ w, w < 2 → (110 : Int32) * nI w = nI (110 * w) := by decide
theorem M_keepAll {M : zT} {i1 : Int32} {Q : zT → Prop} (w : Nat) (hw : w < 2) (hi : i1 = nI w) (h : ∀ A : zT, zKept (110 * w) M A → Q A) : wp_X5_passesAll i1 (1 : Int32) M Q := by
  subst hi
  rintro _ rfl
  refine ⟨by decide, ?_⟩
  intro S0 e0
  have z24 : S0 24 0 = 1 := by rw [e0, va_up_self]
  have z25 : S0 25 0 = nI (110 * w + 0) := by rw [e0, va_up_ne _ _ (by decide), va_up_self]; exact zwh w hw
  have zj : ∀ j : Nat, j ≠ 24 → j ≠ 25 → S0 j = M j := fun j q1 q2 => by rw [e0, va_up_ne _ _ q1, va_up_ne _ _ q2]
  have k1 : zKp (110 * w) S0 S0 1 := ⟨fun _ _ _ => rfl, fun r r1 r2 => absurd r2 (by omega), fun _ _ => rfl⟩
  refine M_keep1 (c := 110 * w + 0) (by rw [z24]; decide) z25 (by omega) (fun A1 a1 b1 c1 => ?_)
  have k2 := zKp_S (t := 1) (by decide) (by decide) k1 a1 b1
  have g1 : A1 24 0 = 1 := by rw [a1 24 (by decide) (by decide)]; exact z24
  replace c1 : A1 25 0 = nI (110 * w + 8) := c1
  refine M_keep2 (c := 110 * w + 8) (by rw [g1]; decide) c1 (by omega) (fun A2 a2 b2 c2 => ?_)
  have k3 := zKp_S (t := 2) (by decide) (by decide) k2 a2 b2
  have g2 : A2 24 0 = 1 := by rw [a2 24 (by decide) (by decide)]; exact g1
  replace c2 : A2 25 0 = nI (110 * w + 16) := c2
  refine M_keep3 (c := 110 * w + 16) (by rw [g2]; decide) c2 (by omega) (fun A3 a3 b3 c3 => ?_)
  have k4 := zKp_S (t := 3) (by decide) (by decide) k3 a3 b3
  have g3 : A3 24 0 = 1 := by rw [a3 24 (by decide) (by decide)]; exact g2
  replace c3 : A3 25 0 = nI (110 * w + 24) := c3
  refine M_keep4 (c := 110 * w + 24) (by rw [g3]; decide) c3 (by omega) (fun A4 a4 b4 c4 => ?_)
  have k5 := zKp_S (t := 4) (by decide) (by decide) k4 a4 b4
  have g4 : A4 24 0 = 1 := by rw [a4 24 (by decide) (by decide)]; exact g3
  replace c4 : A4 25 0 = nI (110 * w + 32) := c4
  refine M_keep5 (c := 110 * w + 32) (by rw [g4]; decide) c4 (by omega) (fun A5 a5 b5 c5 => ?_)
  have k6 := zKp_S (t := 5) (by decide) (by decide) k5 a5 b5
  have g5 : A5 24 0 = 1 := by rw [a5 24 (by decide) (by decide)]; exact g4
  replace c5 : A5 25 0 = nI (110 * w + 40) := c5
  refine M_keep6 (c := 110 * w + 40) (by rw [g5]; decide) c5 (by omega) (fun A6 a6 b6 c6 => ?_)
  have k7 := zKp_S (t := 6) (by decide) (by decide) k6 a6 b6
  have g6 : A6 24 0 = 1 := by rw [a6 24 (by decide) (by decide)]; exact g5
  replace c6 : A6 25 0 = nI (110 * w + 48) := c6
  refine M_keep7 (c := 110 * w + 48) (by rw [g6]; decide) c6 (by omega) (fun A7 a7 b7 c7 => ?_)
  have k8 := zKp_S (t := 7) (by decide) (by decide) k7 a7 b7
  have g7 : A7 24 0 = 1 := by rw [a7 24 (by decide) (by decide)]; exact g6
  replace c7 : A7 25 0 = nI (110 * w + 56) := c7
  refine M_keep8 (c := 110 * w + 56) (by rw [g7]; decide) c7 (by omega) (fun A8 a8 b8 c8 => ?_)
  have k9 := zKp_S (t := 8) (by decide) (by decide) k8 a8 b8
  have g8 : A8 24 0 = 1 := by rw [a8 24 (by decide) (by decide)]; exact g7
  replace c8 : A8 25 0 = nI (110 * w + 61) := c8
  refine M_keep9 (c := 110 * w + 61) (by rw [g8]; decide) c8 (by omega) (fun A9 a9 b9 c9 => ?_)
  have k10 := zKp_S (t := 9) (by decide) (by decide) k9 a9 b9
  have g9 : A9 24 0 = 1 := by rw [a9 24 (by decide) (by decide)]; exact g8
  replace c9 : A9 25 0 = nI (110 * w + 71) := c9
  refine M_keep10 (c := 110 * w + 71) (by rw [g9]; decide) c9 (by omega) (fun A10 a10 b10 c10 => ?_)
  have k11 := zKp_S (t := 10) (by decide) (by decide) k10 a10 b10
  have g10 : A10 24 0 = 1 := by rw [a10 24 (by decide) (by decide)]; exact g9
  replace c10 : A10 25 0 = nI (110 * w + 81) := c10
  refine M_keep11 (c := 110 * w + 81) (by rw [g10]; decide) c10 (by omega) (fun A11 a11 b11 c11 => ?_)
  have k12 := zKp_S (t := 11) (by decide) (by decide) k11 a11 b11
  have g11 : A11 24 0 = 1 := by rw [a11 24 (by decide) (by decide)]; exact g10
  replace c11 : A11 25 0 = nI (110 * w + 91) := c11
  refine M_keep12 (c := 110 * w + 91) (by rw [g11]; decide) c11 (by omega) (fun A12 a12 b12 c12 => ?_)
  have k13 := zKp_S (t := 12) (by decide) (by decide) k12 a12 b12
  have g12 : A12 24 0 = 1 := by rw [a12 24 (by decide) (by decide)]; exact g11
  replace c12 : A12 25 0 = nI (110 * w + 101) := c12
  refine M_one_keep (c := 110 * w + 101) (by rw [g12]; decide) c12 (by omega) (fun A13 a13 b13 c13 => ?_)
  rintro _ rfl
  refine M_one_keep (c := 110 * w + 102) ?_ ?_ (by omega) (fun A14 a14 b14 c14 => ?_)
  · rw [va_up_ne _ _ (by decide), a13 24 (by decide) (by decide), g12]; decide
  · rw [va_up_ne _ _ (by decide)]; exact c13
  rintro _ rfl
  obtain ⟨q1, q2, q3⟩ := k13
  have e22 : ∀ p : Nat, va_up A14 14 (fun _ => va_up A13 13 (fun _ => A12 13 0) 14 0) 22 p = upd (upd (A12 22) (110 * w + 101) (A12 13 0)) (110 * w + 102) (A12 14 0) p := by
    intro p
    rw [va_up_ne _ _ (by decide), b14, va_up_ne _ _ (by decide), va_up_ne _ _ (by decide), b13, a13 14 (by decide) (by decide)]
  have e13 : A12 13 0 = M 13 0 := by rw [q1 13 (by decide) (by decide), zj 13 (by decide) (by decide)]
  have e14 : A12 14 0 = M 14 0 := by rw [q1 14 (by decide) (by decide), zj 14 (by decide) (by decide)]
  refine h _ ⟨fun j j1 j2 j3 j4 => ?_, ?_, ?_, fun r r1 r2 i hi => ?_, ?_, ?_, fun p hp => ?_⟩
  · rw [va_up_ne _ _ (by omega), a14 j j2 j4, va_up_ne _ _ (by omega), a13 j j2 j4, q1 j j2 j4, zj j j3 j4]
  · rw [va_up_ne _ _ (by decide), a14 13 (by decide) (by decide), va_up_self, e13]
  · rw [va_up_self, va_up_ne _ _ (by decide), a13 14 (by decide) (by decide), e14]
  · have := zoff_lt 13 (by decide) r r2 r1
    have := zoff_le 13 (by decide)
    rw [e22, pk_un (by omega), pk_un (by omega), q2 r r1 r2 i hi, zj r (by omega) (by omega)]
  · rw [e22, pk_un (by omega), pk_us, e13]
  · rw [e22, pk_us, e14]
  · have : zoff (12 + 1) = 101 := rfl
    rw [e22, pk_un (by omega), pk_un (by omega), q3 p (by omega), zj 22 (by decide) (by decide)]
theorem M_backAll {M : zT} {i1 : Int32} {Q : zT → Prop} (w : Nat) (hw : w < 2) (hi : i1 = nI w) (h : ∀ A : zT, zBack (110 * w) M A → Q A) : wp_X5_passesAll i1 (0 : Int32) M Q := by
  subst hi
  rintro _ rfl
  refine ⟨by decide, ?_⟩
  intro S0 e0
  have z24 : S0 24 0 = 0 := by rw [e0, va_up_self]
  have z25 : S0 25 0 = nI (110 * w + 0) := by rw [e0, va_up_ne _ _ (by decide), va_up_self]; exact zwh w hw
  have zj : ∀ j : Nat, j ≠ 24 → j ≠ 25 → S0 j = M j := fun j q1 q2 => by rw [e0, va_up_ne _ _ q1, va_up_ne _ _ q2]
  have k1 : zBp (110 * w) S0 S0 1 := ⟨fun _ _ _ => rfl, fun r r1 r2 => absurd r2 (by omega)⟩
  refine M_back1 (c := 110 * w + 0) z24 z25 (by omega) (fun A1 a1 b1 c1 => ?_)
  have k2 := zBp_S (t := 1) (by decide) (by decide) k1 a1 b1
  have g1 : A1 24 0 = 0 := by rw [a1 24 (by decide) (by decide)]; exact z24
  replace c1 : A1 25 0 = nI (110 * w + 8) := c1
  refine M_back2 (c := 110 * w + 8) g1 c1 (by omega) (fun A2 a2 b2 c2 => ?_)
  have k3 := zBp_S (t := 2) (by decide) (by decide) k2 a2 b2
  have g2 : A2 24 0 = 0 := by rw [a2 24 (by decide) (by decide)]; exact g1
  replace c2 : A2 25 0 = nI (110 * w + 16) := c2
  refine M_back3 (c := 110 * w + 16) g2 c2 (by omega) (fun A3 a3 b3 c3 => ?_)
  have k4 := zBp_S (t := 3) (by decide) (by decide) k3 a3 b3
  have g3 : A3 24 0 = 0 := by rw [a3 24 (by decide) (by decide)]; exact g2
  replace c3 : A3 25 0 = nI (110 * w + 24) := c3
  refine M_back4 (c := 110 * w + 24) g3 c3 (by omega) (fun A4 a4 b4 c4 => ?_)
  have k5 := zBp_S (t := 4) (by decide) (by decide) k4 a4 b4
  have g4 : A4 24 0 = 0 := by rw [a4 24 (by decide) (by decide)]; exact g3
  replace c4 : A4 25 0 = nI (110 * w + 32) := c4
  refine M_back5 (c := 110 * w + 32) g4 c4 (by omega) (fun A5 a5 b5 c5 => ?_)
  have k6 := zBp_S (t := 5) (by decide) (by decide) k5 a5 b5
  have g5 : A5 24 0 = 0 := by rw [a5 24 (by decide) (by decide)]; exact g4
  replace c5 : A5 25 0 = nI (110 * w + 40) := c5
  refine M_back6 (c := 110 * w + 40) g5 c5 (by omega) (fun A6 a6 b6 c6 => ?_)
  have k7 := zBp_S (t := 6) (by decide) (by decide) k6 a6 b6
  have g6 : A6 24 0 = 0 := by rw [a6 24 (by decide) (by decide)]; exact g5
  replace c6 : A6 25 0 = nI (110 * w + 48) := c6
  refine M_back7 (c := 110 * w + 48) g6 c6 (by omega) (fun A7 a7 b7 c7 => ?_)
  have k8 := zBp_S (t := 7) (by decide) (by decide) k7 a7 b7
  have g7 : A7 24 0 = 0 := by rw [a7 24 (by decide) (by decide)]; exact g6
  replace c7 : A7 25 0 = nI (110 * w + 56) := c7
  refine M_back8 (c := 110 * w + 56) g7 c7 (by omega) (fun A8 a8 b8 c8 => ?_)
  have k9 := zBp_S (t := 8) (by decide) (by decide) k8 a8 b8
  have g8 : A8 24 0 = 0 := by rw [a8 24 (by decide) (by decide)]; exact g7
  replace c8 : A8 25 0 = nI (110 * w + 61) := c8
  refine M_back9 (c := 110 * w + 61) g8 c8 (by omega) (fun A9 a9 b9 c9 => ?_)
  have k10 := zBp_S (t := 9) (by decide) (by decide) k9 a9 b9
  have g9 : A9 24 0 = 0 := by rw [a9 24 (by decide) (by decide)]; exact g8
  replace c9 : A9 25 0 = nI (110 * w + 71) := c9
  refine M_back10 (c := 110 * w + 71) g9 c9 (by omega) (fun A10 a10 b10 c10 => ?_)
  have k11 := zBp_S (t := 10) (by decide) (by decide) k10 a10 b10
  have g10 : A10 24 0 = 0 := by rw [a10 24 (by decide) (by decide)]; exact g9
  replace c10 : A10 25 0 = nI (110 * w + 81) := c10
  refine M_back11 (c := 110 * w + 81) g10 c10 (by omega) (fun A11 a11 b11 c11 => ?_)
  have k12 := zBp_S (t := 11) (by decide) (by decide) k11 a11 b11
  have g11 : A11 24 0 = 0 := by rw [a11 24 (by decide) (by decide)]; exact g10
  replace c11 : A11 25 0 = nI (110 * w + 91) := c11
  refine M_back12 (c := 110 * w + 91) g11 c11 (by omega) (fun A12 a12 b12 c12 => ?_)
  have k13 := zBp_S (t := 12) (by decide) (by decide) k12 a12 b12
  have g12 : A12 24 0 = 0 := by rw [a12 24 (by decide) (by decide)]; exact g11
  replace c12 : A12 25 0 = nI (110 * w + 101) := c12
  refine M_one_back (c := 110 * w + 101) g12 c12 (by omega) (fun A13 a13 c13 => ?_)
  rintro _ rfl
  refine M_one_back (c := 110 * w + 102) ?_ ?_ (by omega) (fun A14 a14 c14 => ?_)
  · rw [va_up_ne _ _ (by decide), a13 24 (by decide)]; exact g12
  · rw [va_up_ne _ _ (by decide)]; exact c13
  rintro _ rfl
  obtain ⟨q1, q2⟩ := k13
  refine h _ ⟨fun j j1 j2 j3 => ?_, fun r r1 r2 i hi => ?_, ?_, ?_⟩
  · rw [va_up_ne _ _ (by omega), a14 j j3, va_up_ne _ _ (by omega), a13 j j3, q1 j (by omega) j3, zj j j2 j3]
  · rw [va_up_ne _ _ (by omega), a14 r (by omega), va_up_ne _ _ (by omega), a13 r (by omega), q2 r r1 r2 i hi, zj 22 (by decide) (by decide)]
  · rw [va_up_ne _ _ (by decide), a14 13 (by decide), va_up_self, q1 22 (by decide) (by decide), zj 22 (by decide) (by decide)]
  · rw [va_up_self, va_up_ne _ _ (by decide), a13 22 (by decide), q1 22 (by decide) (by decide), zj 22 (by decide) (by decide)]
section OK11
variable {E N F IT IF L M G Mi : zT}
def FEq (A B : zT) : Prop := (∀ i : Nat, i < 10 → A 0 i = B 0 i ∧ A 1 i = B 1 i ∧ A 2 i = B 2 i ∧ A 3 i = B 3 i) ∧ A 4 0 = B 4 0
theorem R_becF {A B : zT} {Q : zT → Prop} (h : ∀ B' : zT, FEq B' A → Q B') : wp_X0_become A B Q := by
  refine R_copy (by decide) (fun g0 h0 => ?_)
  rintro _ rfl
  refine R_copy (by decide) (fun g1 h1 => ?_)
  rintro _ rfl
  refine R_copy (by decide) (fun g2 h2 => ?_)
  rintro _ rfl
  refine R_copy (by decide) (fun g3 h3 => ?_)
  rintro _ rfl
  rintro _ rfl
  exact h _ ⟨fun i hi => ⟨h0 i hi, h1 i hi, h2 i hi, h3 i hi⟩, rfl⟩
theorem FEq_zFv {A B : zT} {c : Nat} (h : FEq A B) (hv : zFv B c) : zFv A c := by
  obtain ⟨h1, h2⟩ := h
  obtain ⟨a1, a2, a3⟩ := hv
  exact ⟨h2.trans a1, a2, fun i hi => by rw [(h1 i (by omega)).2.1]; exact a3 i hi⟩
/-- the rows of what is told, the films, their counts: as before, place by place -/
theorem Inv_pt {M' : zT} (h : Inv E N F IT IF L M) (hr : ∀ r : Nat, 1 ≤ r → r < 13 → ∀ i : Nat, i < zlen r → M' r i = M r i) (h13 : M' 13 0 = M 13 0) (h14 : M' 14 0 = M 14 0) (hk : ∀ k : Nat, (k = 0 ∨ k = 15 ∨ k = 19 ∨ k = 23 ∨ k = 39 ∨ k = 40) → M' k = M k) (h22 : ∀ p : Nat, p < 103 → M' 22 p = M 22 p) : Inv E N F IT IF L M' := by
  obtain ⟨⟨r1, r2, r3⟩, h2, ⟨f1, f2⟩, h4, ⟨l1, l2⟩, h6, ⟨e1, e2, e3, e4, e5⟩, h8⟩ := h
  refine ⟨⟨fun k q => by rw [hr 8 (by decide) (by decide) k q]; exact r1 k q, fun w q => ?_, h13.trans r3⟩, h2, ⟨fun i q => ?_, f2.trans h14.symm⟩, h4, ⟨fun i q => by rw [hk 15 (by decide)]; exact l1 i q, by rw [hk 19 (by decide)]; exact l2⟩, h6, ⟨fun k q => by rw [hk 0 (by decide)]; exact e1 k q, by rw [hk 23 (by decide)]; exact e2, by rw [hk 40 (by decide)]; exact e3, fun i q => by rw [hk 39 (by decide)]; exact e4 i q, e5⟩, ?_⟩
  · rw [hr 1 (by decide) (by decide) w q, hr 2 (by decide) (by decide) w q, hr 3 (by decide) (by decide) w q, hr 4 (by decide) (by decide) w q, hr 5 (by decide) (by decide) w q, hr 6 (by decide) (by decide) w q, hr 7 (by decide) (by decide) w q]
    exact r2 w q
  · rw [hr 9 (by decide) (by decide) i q, hr 10 (by decide) (by decide) i q, hr 11 (by decide) (by decide) i q, hr 12 (by decide) (by decide) i q]
    exact f1 i q
  · rcases h8 with h8 | ⟨h8, ⟨i1, i2, i3, i4, i5⟩, i6⟩
    · exact Or.inl h8
    · refine Or.inr ⟨h8, ⟨fun w q => ?_, fun k q => by rw [h22 _ (by omega)]; exact i2 k q, fun i q => ?_, by rw [h22 _ (by omega)]; exact i4, by rw [h22 _ (by omega)]; exact i5⟩, i6⟩
      · rw [h22 _ (by omega), h22 _ (by omega), h22 _ (by omega), h22 _ (by omega), h22 _ (by omega), h22 _ (by omega), h22 _ (by omega)]
        exact i1 w q
      · rw [h22 _ (by omega), h22 _ (by omega), h22 _ (by omega), h22 _ (by omega)]
        exact i3 i q
theorem ok_image (hI : Inv E N F IT IF L M) : wp_X4_image N F E IT IF (fun r E' IT' IF' => wp_X5_image M (fun r' M' => r' = r ∧ Inv E' N F IT' IF' L M')) := by
  obtain ⟨⟨t1, t2, t3⟩, ⟨n, hV⟩, ⟨f1, f2⟩, ⟨c, hF⟩, -⟩ := id hI
  refine R_bec (fun IT' hT => R_becF (fun IF' hFF => ?_))
  rintro _ rfl
  rintro _ rfl
  refine M_keepAll 0 (by decide) rfl (fun A hA => ?_)
  obtain ⟨a1, a2, a3, a4, a5, a6, a7⟩ := hA
  obtain ⟨⟨q1, q2, q3⟩, v2, ⟨g1, g2⟩, v4, ⟨l1, l2⟩, v6, ⟨e1, e2, e3, e4, e5⟩, -⟩ := hI
  have nj : ∀ j : Nat, (j < 13 ∨ 14 < j) → j ≠ 22 → j ≠ 23 → j ≠ 24 → j ≠ 25 → A j = M j := fun j j1 j2 j3 j4 j5 => by rw [a1 j j1 j2 j4 j5, va_up_ne _ _ j3]
  have b4 : ∀ r : Nat, 1 ≤ r → r < 13 → ∀ i : Nat, i < zlen r → A 22 (0 + zoff r + i) = M r i := fun r r1 r2 i hi => by rw [show 0 + zoff r + i = 110 * 0 + zoff r + i by omega, a4 r r1 r2 i hi, va_up_ne _ _ (by omega)]
  have rd : ∀ r : Nat, 1 ≤ r → r < 13 → A r = M r := fun r r1 r2 => nj r (Or.inl r2) (by omega) (by omega) (by omega) (by omega)
  refine ⟨a2.trans t3, ⟨fun k q => by rw [rd 8 (by decide) (by decide)]; exact q1 k q, fun w q => ?_, a2.trans t3⟩, v2, ⟨fun i q => ?_, g2.trans a3.symm⟩, v4, ⟨fun i q => by rw [nj 15 (by decide) (by decide) (by decide) (by decide) (by decide)]; exact l1 i q, by rw [nj 19 (by decide) (by decide) (by decide) (by decide) (by decide)]; exact l2⟩, v6, ⟨fun k q => by rw [nj 0 (by decide) (by decide) (by decide) (by decide) (by decide)]; exact e1 k q, ?_, by rw [nj 40 (by decide) (by decide) (by decide) (by decide) (by decide)]; exact e3, fun i q => by rw [nj 39 (by decide) (by decide) (by decide) (by decide) (by decide)]; exact e4 i q, e5⟩, Or.inr ⟨rfl, ⟨fun w q => ?_, fun k q => ?_, fun i q => ?_, ?_, ?_⟩, ⟨n, TEq_zV hT hV⟩, ⟨c, FEq_zFv hFF hF⟩⟩⟩
  · rw [rd 1 (by decide) (by decide), rd 2 (by decide) (by decide), rd 3 (by decide) (by decide), rd 4 (by decide) (by decide), rd 5 (by decide) (by decide), rd 6 (by decide) (by decide), rd 7 (by decide) (by decide)]
    exact q2 w q
  · rw [rd 9 (by decide) (by decide), rd 10 (by decide) (by decide), rd 11 (by decide) (by decide), rd 12 (by decide) (by decide)]
    exact g1 i q
  · rw [a1 23 (by decide) (by decide) (by decide) (by decide), va_up_self, va_up_self]
  · obtain ⟨m0, m1, m2, m3, m4, m5, m6⟩ := t2 w q
    have ht := hT.2.1 w q
    exact ⟨(b4 1 (by decide) (by decide) w q).trans (m0.trans (ht 0 (by decide)).symm), (b4 2 (by decide) (by decide) w q).trans (m1.trans (ht 1 (by decide)).symm), (b4 3 (by decide) (by decide) w q).trans (m2.trans (ht 2 (by decide)).symm), (b4 4 (by decide) (by decide) w q).trans (m3.trans (ht 3 (by decide)).symm), (b4 5 (by decide) (by decide) w q).trans (m4.trans (ht 4 (by decide)).symm), (b4 6 (by decide) (by decide) w q).trans (m5.trans (ht 5 (by decide)).symm), (b4 7 (by decide) (by decide) w q).trans (m6.trans (ht 6 (by decide)).symm)⟩
  · exact (b4 8 (by decide) (by decide) k q).trans ((t1 k q).trans (hT.1 k q).symm)
  · obtain ⟨m0, m1, m2, m3⟩ := f1 i q
    obtain ⟨u0, u1, u2, u3⟩ := hFF.1 i q
    exact ⟨(b4 9 (by decide) (by decide) i q).trans (m0.symm.trans u0.symm), (b4 10 (by decide) (by decide) i q).trans (m1.symm.trans u1.symm), (b4 11 (by decide) (by decide) i q).trans (m2.symm.trans u2.symm), (b4 12 (by decide) (by decide) i q).trans (m3.symm.trans u3.symm)⟩
  · exact a5.trans (t3.trans hT.2.2.symm)
  · exact a6.trans (f2.symm.trans hFF.2.symm)
theorem ok_on (hI : Inv E N F IT IF L M) : wp_X4_on IT IF E N F (fun r E' N' F' => wp_X5_on M (fun r' M' => r' = r ∧ Inv E' N' F' IT IF L M')) := by
  have e23 : E 5 0 = M 23 0 := hI.2.2.2.2.2.2.1.2.1
  refine ⟨fun c0 => ?_, fun c0 => ?_⟩
  · exact RF 2 (by decide) rfl (zt (by rw [← e23]; exact c0) (MN 2 (by decide) rfl ⟨rfl, Inv_ref hI 2 (by decide)⟩))
  · refine R_bec (fun N' hT => R_becF (fun F' hFF => zf (by rw [← e23]; exact c0) (M_backAll 0 (by decide) rfl (fun A hA => ?_))))
    obtain ⟨a1, a2, a3, a4⟩ := hA
    obtain ⟨-, -, -, -, ⟨l1, l2⟩, v6, ⟨e1, e2, e3, e4, e5⟩, hh⟩ := hI
    rcases hh with hh | ⟨h5, hImg, ⟨n, hV⟩, ⟨c, hF⟩⟩
    · exact absurd hh c0
    obtain ⟨i1, i2, i3, i4, i5⟩ := id hImg
    have nj : ∀ j : Nat, (j < 1 ∨ 14 < j) → j ≠ 24 → j ≠ 25 → A j = M j := a1
    have b2 : ∀ r : Nat, 1 ≤ r → r < 13 → ∀ i : Nat, i < zlen r → A r i = M 22 (0 + zoff r + i) := fun r r1 r2 i hi => by rw [a2 r r1 r2 i hi]
    have m22 : A 22 = M 22 := nj 22 (by decide) (by decide) (by decide)
    refine ⟨a3.trans (i4.trans hT.2.2.symm), ⟨fun k q => ?_, fun w q => ?_, a3.trans (i4.trans hT.2.2.symm)⟩, ⟨n, TEq_zV hT hV⟩, ⟨fun i q => ?_, hFF.2.trans (i5.symm.trans a4.symm)⟩, ⟨c, FEq_zFv hFF hF⟩, ⟨fun i q => by rw [nj 15 (by decide) (by decide) (by decide)]; exact l1 i q, by rw [nj 19 (by decide) (by decide) (by decide)]; exact l2⟩, v6, ⟨fun k q => by rw [nj 0 (by decide) (by decide) (by decide)]; exact e1 k q, by rw [nj 23 (by decide) (by decide) (by decide)]; exact e2, by rw [nj 40 (by decide) (by decide) (by decide)]; exact e3, fun i q => by rw [nj 39 (by decide) (by decide) (by decide)]; exact e4 i q, e5⟩, Or.inr ⟨h5, ?_, ⟨n, hV⟩, ⟨c, hF⟩⟩⟩
    · exact (b2 8 (by decide) (by decide) k q).trans ((i2 k q).trans (hT.1 k q).symm)
    · obtain ⟨m0, m1, m2, m3, m4, m5, m6⟩ := i1 w q
      have ht := hT.2.1 w q
      exact ⟨(b2 1 (by decide) (by decide) w q).trans (m0.trans (ht 0 (by decide)).symm), (b2 2 (by decide) (by decide) w q).trans (m1.trans (ht 1 (by decide)).symm), (b2 3 (by decide) (by decide) w q).trans (m2.trans (ht 2 (by decide)).symm), (b2 4 (by decide) (by decide) w q).trans (m3.trans (ht 3 (by decide)).symm), (b2 5 (by decide) (by decide) w q).trans (m4.trans (ht 4 (by decide)).symm), (b2 6 (by decide) (by decide) w q).trans (m5.trans (ht 5 (by decide)).symm), (b2 7 (by decide) (by decide) w q).trans (m6.trans (ht 6 (by decide)).symm)⟩
    · obtain ⟨m0, m1, m2, m3⟩ := i3 i q
      obtain ⟨u0, u1, u2, u3⟩ := hFF.1 i q
      exact ⟨u0.trans (m0.symm.trans (b2 9 (by decide) (by decide) i q).symm), u1.trans (m1.symm.trans (b2 10 (by decide) (by decide) i q).symm), u2.trans (m2.symm.trans (b2 11 (by decide) (by decide) i q).symm), u3.trans (m3.symm.trans (b2 12 (by decide) (by decide) i q).symm)⟩
    · unfold zImg at hImg ⊢
      rw [m22]
      exact hImg
end OK11

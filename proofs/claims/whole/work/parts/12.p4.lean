/-! a told door and its walkers, as they must be; what follows of the seconds -/
def zW7 (T : zT) (w : Nat) (a : Nat → Nat) : Prop := (∀ k : Nat, k < 7 → tv T w k = nI (a k)) ∧ a 0 ≤ 5 ∧ a 1 ≤ 99 ∧ 1 ≤ a 2 ∧ a 2 ≤ 40 ∧ 1 ≤ a 3 ∧ a 3 ≤ 4 ∧ a 4 ≤ 2 ∧ a 5 ≤ 1 ∧ a 6 ≤ 9
def zV (T : zT) (n : Nat) : Prop := T 2 0 = nI n ∧ n ≤ 8 ∧ (∃ d : Nat → Nat, (∀ k : Nat, k < 5 → T 0 k = nI (d k)) ∧ 1 ≤ d 0 ∧ d 0 ≤ 9 ∧ d 1 ≤ 9 ∧ d 2 ≤ 9 ∧ d 3 ≤ 40 ∧ d 4 ≤ 6) ∧ ∀ w : Nat, w < n → ∃ a : Nat → Nat, zW7 T w a
theorem zlI {a b : Nat} (ha : a < 2 ^ 31) (hb : b < 2 ^ 31) : nI a < nI b ↔ a < b := nI_ltI ha hb
theorem V_div {a b : Nat} (hb : 1 ≤ b) (h : a + b < 2 ^ 31) : pDiv (nI a) (nI b) = nI ((a + b - 1) / b) := by
  unfold pDiv
  rw [if_pos (show (1 : Int32) ≤ nI b from (nI_leI (a := 1) (b := b) (by omega) (by omega)).mpr hb), nI_add, show (1 : Int32) = nI 1 from rfl, pk_sub (by omega), pk_div (by omega) (by omega) (by omega)]
theorem V_there {T : zT} {n w : Nat} (hV : zV T n) (hw : w < n) : ∃ h : Nat, sThere T w = nI h ∧ h ≤ 139 := by
  obtain ⟨-, -, -, hW⟩ := hV
  obtain ⟨a, ha, -, h1, h2, h2', h3, h3', -⟩ := hW w hw
  refine ⟨a 1 + (a 2 + a 3 - 1) / a 3, ?_, ?_⟩
  · unfold sThere
    rw [ha 1 (by decide), ha 2 (by decide), ha 3 (by decide), V_div h3 (by omega), nI_add]
  · have : (a 2 + a 3 - 1) / a 3 ≤ 40 := by
      apply Nat.le_of_lt_succ
      rw [Nat.div_lt_iff_lt_mul (by omega)]
      rcases (show a 3 = 1 ∨ a 3 = 2 ∨ a 3 = 3 ∨ a 3 = 4 by omega) with e | e | e | e <;> rw [e] <;> omega
    omega
theorem V_yh {T : zT} {n w : Nat} (hV : zV T n) (hw : w < n) : ∃ y : Nat, sYH T w = nI y ∧ 1 ≤ y ∧ y ≤ 9 := by
  obtain ⟨-, -, -, hW⟩ := hV
  obtain ⟨a, ha, h0, -, -, -, h3, h3', h4, -⟩ := hW w hw
  have e3 := ha 3 (by decide)
  have e4 := ha 4 (by decide)
  have e2 : (2 : Int32) * tv T w 3 = nI (2 * a 3) := by rw [e3, show (2 : Int32) = nI 2 from rfl, pk_mul]
  unfold sYH
  by_cases c1 : tv T w 0 = 1
  · rw [if_pos c1]; exact ⟨2 * a 3, e2, by omega, by omega⟩
  · rw [if_neg c1]
    by_cases c2 : tv T w 0 = 2
    · rw [if_pos c2, e2, show (1 : Int32) = nI 1 from rfl, nI_add]; exact ⟨_, rfl, by omega, by omega⟩
    · rw [if_neg c2]
      by_cases c3 : tv T w 0 = 3
      · rw [if_pos c3]
        by_cases c4 : 1 < tv T w 3 - tv T w 4
        · rw [if_pos c4, e3, e4]
          rw [e3, e4] at c4
          rcases Nat.lt_or_ge (a 3) (a 4) with q | q
          · have := pk_sneg (a := a 3) (b := a 4) (by omega) q
            rw [zlt] at c4 this
            have e1 : (1 : Int32).toInt = 1 := rfl
            have e0 : (0 : Int32).toInt = 0 := rfl
            omega
          · rw [pk_sub q] at c4 ⊢
            rw [show (1 : Int32) = nI 1 from rfl, nI_ltI (by omega) (by omega)] at c4
            exact ⟨_, rfl, by omega, by omega⟩
        · rw [if_neg c4]; exact ⟨1, rfl, by omega, by omega⟩
      · rw [if_neg c3]
        by_cases c4 : tv T w 0 = 4
        · rw [if_pos c4, e3]; exact ⟨_, rfl, by omega, by omega⟩
        · rw [if_neg c4]
          by_cases c5 : tv T w 0 = 5
          · rw [if_pos c5]; exact ⟨2 * a 3, e2, by omega, by omega⟩
          · rw [if_neg c5, e3]; exact ⟨_, rfl, by omega, by omega⟩
theorem V_opn {T : zT} {n w : Nat} (hV : zV T n) (hw : w < n) : ∃ o : Nat, sOpn T w = nI o ∧ o ≤ 11 := by
  obtain ⟨-, -, ⟨d, hd, -, -, d1, -⟩, hW⟩ := hV
  obtain ⟨a, ha, h0, -, -, -, -, -, h4, -⟩ := hW w hw
  unfold sOpn
  by_cases c : 0 < sOp0 T w
  · rw [if_pos c]
    unfold sOp0 at c ⊢
    rw [hd 1 (by decide), ha 4 (by decide), nI_add] at c ⊢
    by_cases c2 : tv T w 0 = 4
    · rw [if_pos c2, show (1 : Int32) = nI 1 from rfl] at c ⊢
      rcases Nat.lt_or_ge (d 1 + a 4) 1 with q | q
      · have := pk_sneg (a := d 1 + a 4) (b := 1) (by omega) q
        rw [zlt] at c this
        omega
      · rw [pk_sub q]; exact ⟨_, rfl, by omega⟩
    · rw [if_neg c2, show (0 : Int32) = nI 0 from rfl, pk_sub (Nat.zero_le _)]
      exact ⟨_, rfl, by omega⟩
  · rw [if_neg c]; exact ⟨0, rfl, by omega⟩
theorem V_go {T : zT} {n w t : Nat} (hV : zV T n) (hw : w < n) (ht : t < 10000) (hs : ¬ nI t < tv T w 1) : (∃ g : Nat, sGo T w (nI t) = nI g ∧ 1 ≤ g ∧ g ≤ 40) ∨ ((sGo T w (nI t)).toInt ≤ 0) := by
  obtain ⟨-, -, -, hW⟩ := hV
  obtain ⟨a, ha, -, h1, h2, h2', h3, h3', -⟩ := hW w hw
  unfold sGo
  rw [ha 1 (by decide), nI_ltI (by omega) (by omega)] at hs
  rw [ha 1 (by decide), ha 2 (by decide), ha 3 (by decide), pk_sub (by omega), pk_mul]
  have hm : a 3 * (t - a 1) < 50000 := by
    rcases (show a 3 = 1 ∨ a 3 = 2 ∨ a 3 = 3 ∨ a 3 = 4 by omega) with e | e | e | e <;> rw [e] <;> omega
  rcases Nat.lt_or_ge (a 3 * (t - a 1)) (a 2) with q | q
  · exact Or.inl ⟨a 2 - a 3 * (t - a 1), pk_sub (by omega), by omega, by omega⟩
  · refine Or.inr ?_
    rw [pk_sub_toInt (by omega) (by omega)]
    omega
theorem V_sec {T : zT} {n one w t : Nat} {held : Int32} (hV : zV T n) (hw : w < n) (ht : t < 10000) : ∃ s : Nat, sSec T (nI t) one w held = nI s ∧ s ≤ 40 := by
  unfold sSec
  by_cases c1 : nI t < tv T w 1
  · rw [if_pos c1]; exact ⟨0, rfl, by omega⟩
  · rw [if_neg c1]
    by_cases c2 : 0 < sGo T w (nI t)
    · rw [if_pos c2]
      by_cases c3 : sGo T w (nI t) ≤ sUp T one w held
      · rw [if_pos c3]
        rcases V_go hV hw ht c1 with ⟨g, e, g1, g2⟩ | h
        · obtain ⟨y, ey, y1, y2⟩ := V_yh hV hw
          rw [e, ey, V_div y1 (by omega)]
          refine ⟨_, rfl, ?_⟩
          apply Nat.le_of_lt_succ
          rw [Nat.div_lt_iff_lt_mul (by omega)]
          rcases (show y = 1 ∨ y = 2 ∨ y = 3 ∨ y = 4 ∨ y = 5 ∨ y = 6 ∨ y = 7 ∨ y = 8 ∨ y = 9 by omega) with e | e | e | e | e | e | e | e | e <;> rw [e] <;> omega
        · rw [zlt] at c2
          have e0 : (0 : Int32).toInt = 0 := rfl
          omega
      · rw [if_neg c3]; exact ⟨0, rfl, by omega⟩
    · rw [if_neg c2]; exact ⟨0, rfl, by omega⟩
/-- the sequence in naturals -/
def zSB (T : zT) (n : Nat) (P0 : Nat → Bool) (i c o s : Nat) : Prop := qC T n P0 i = nI c ∧ c ≤ 139 + 51 * i ∧ qO T n P0 i = nI o ∧ o ≤ 11 ∧ qS T n P0 i = nI s ∧ s ≤ 40
section VQ
variable {T : zT} {n : Nat} {P0 : Nat → Bool}
theorem V_s {i c o : Nat} (hV : zV T n) (hi : i < zcn P0 n) (hc : qC T n P0 i = nI c) (ho : qO T n P0 i = nI o) (h : c + o < 10000) : ∃ s : Nat, qS T n P0 i = nI s ∧ s ≤ 40 := by
  rcases Nat.lt_or_ge (i + 1) (zcn P0 n) with q | q
  · rw [qS_eq q, hc, ho, nI_add]
    exact V_sec hV (q1_lt q) h
  · rw [qS_last (by omega)]
    exact ⟨0, rfl, by omega⟩
theorem V_q (hV : zV T n) : ∀ i : Nat, i < zcn P0 n → ∃ c o s : Nat, zSB T n P0 i c o s
  | 0, hi => by
    have hw := q1_lt (T := T) hi
    obtain ⟨h, eh, hh⟩ := V_there hV hw
    obtain ⟨o, eo, ho⟩ := V_opn hV hw
    have ec : qC T n P0 0 = nI h := by
      show zC0 T (q1 T n P0 0) = _
      unfold zC0
      rw [eh, if_neg (nI_pos (by omega))]
    have eo' : qO T n P0 0 = nI o := eo
    obtain ⟨s, es, hs⟩ := V_s hV hi ec eo' (by omega)
    exact ⟨h, o, s, ec, by omega, eo', ho, es, hs⟩
  | i + 1, hi => by
    have h8 : n ≤ 8 := hV.2.1
    have hcn := zcn_le P0 n
    obtain ⟨c, o, s, ec, hc, eo, ho, es, hs⟩ := V_q hV i (by omega)
    have hw := q1_lt (T := T) hi
    obtain ⟨h, eh, hh⟩ := V_there hV hw
    obtain ⟨o2, eo2, ho2⟩ := V_opn hV hw
    have eg : zGn T n (zq T n P0 i) = nI (c + o + s) := by
      show qC T n P0 i + qO T n P0 i + qS T n P0 i = _
      rw [ec, eo, es, nI_add, nI_add]
    have ec2 : ∃ c2 : Nat, qC T n P0 (i + 1) = nI c2 ∧ c2 ≤ 139 + 51 * (i + 1) := by
      show ∃ c2 : Nat, zC T (zGn T n (zq T n P0 i)) (qS T n P0 i) (q1 T n P0 (i + 1)) = nI c2 ∧ _
      unfold zC
      rw [eg, eh]
      split
      · exact ⟨_, rfl, by omega⟩
      · split
        · exact ⟨_, rfl, by omega⟩
        · exact ⟨_, rfl, by omega⟩
    obtain ⟨c2, ec2, hc2⟩ := ec2
    have eo3 : ∃ o3 : Nat, qO T n P0 (i + 1) = nI o3 ∧ o3 ≤ 11 := by
      show ∃ o3 : Nat, zO T (zGn T n (zq T n P0 i)) (qS T n P0 i) (q1 T n P0 (i + 1)) = nI o3 ∧ _
      unfold zO
      split
      · exact ⟨0, rfl, by omega⟩
      · exact ⟨o2, eo2, ho2⟩
    obtain ⟨o3, eo3, ho3⟩ := eo3
    obtain ⟨s2, es2, hs2⟩ := V_s hV hi ec2 eo3 (by omega)
    exact ⟨c2, o3, s2, ec2, hc2, eo3, ho3, es2, hs2⟩
/-- one comes no sooner than the one ahead is gone -/
theorem V_ord {i c o s c2 o2 s2 : Nat} (hV : zV T n) (hi : i + 1 < zcn P0 n) (h : zSB T n P0 i c o s) (h2 : zSB T n P0 (i + 1) c2 o2 s2) : c + o + s ≤ c2 ∧ (0 < s → c2 = c + o + s ∧ o2 = 0) := by
  have h8 : n ≤ 8 := hV.2.1
  have hcn := zcn_le P0 n
  obtain ⟨ec, hc, eo, ho, es, hs⟩ := h
  obtain ⟨ec2, hc2, eo2, ho2, -, -⟩ := h2
  have hw := q1_lt (T := T) hi
  obtain ⟨t, et, ht⟩ := V_there hV hw
  have eg : zGn T n (zq T n P0 i) = nI (c + o + s) := by
    show qC T n P0 i + qO T n P0 i + qS T n P0 i = _
    rw [ec, eo, es, nI_add, nI_add]
  have e1 : zC T (nI (c + o + s)) (nI s) (q1 T n P0 (i + 1)) = nI c2 := by
    rw [← ec2, ← eg, ← es]; rfl
  have e2 : zO T (nI (c + o + s)) (nI s) (q1 T n P0 (i + 1)) = nI o2 := by
    rw [← eo2, ← eg, ← es]; rfl
  unfold zO at e2
  rw [e1] at e2
  unfold zC at e1
  rw [et] at e1
  by_cases cc : (0 : Int32) < nI s
  · rw [if_pos cc] at e1
    have ee := (nI_eq (by omega) (by omega)).mp e1
    refine ⟨by omega, fun _ => ⟨ee.symm, ?_⟩⟩
    obtain ⟨-, -, ⟨d, hd, d0, d0', -⟩, -⟩ := hV
    rw [← ee, pk_sub (Nat.le_refl _), hd 0 (by decide), if_pos ((nI_ltI (by omega) (by omega)).mpr (by omega))] at e2
    exact ((nI_eq (a := 0) (by omega) (by omega)).mp e2).symm
  · rw [if_neg cc] at e1
    have c' : ¬ 0 < s := fun q => cc ((nI_ltI (a := 0) (by omega) (by omega)).mpr q)
    refine ⟨?_, fun q => absurd q c'⟩
    by_cases c3 : nI t < nI (c + o + s)
    · rw [if_pos c3] at e1
      have := (nI_eq (by omega) (by omega)).mp e1
      omega
    · rw [if_neg c3] at e1
      rw [nI_ltI (by omega) (by omega)] at c3
      have := (nI_eq (by omega) (by omega)).mp e1
      omega
end VQ

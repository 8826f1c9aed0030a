/-! a way: its statements, one behind the other -/
section WY
variable {L : zT} {c : Nat}
theorem f1_up {ch : Nat → Int32} {p : Nat} (h : (f1 ch p).2 = true) : dg (ch p) ∧ f1 ch p = (p + 1, true) := by
  by_cases d : dg (ch p)
  · exact ⟨d, if_pos d⟩
  · rw [show f1 ch p = (p, false) from if_neg d] at h; cases h
theorem f2_up {ch : Nat → Int32} {p : Nat} (h : (f2 ch p).2 = true) : dg (ch p) ∧ p + 1 ≤ (f2 ch p).1 := by
  by_cases d : dg (ch p)
  · refine ⟨d, ?_⟩
    unfold f2
    rw [if_pos d]
    show p + 1 ≤ (if dg (ch (p + 1)) then p + 2 else p + 1)
    split <;> omega
  · rw [f2_f d] at h; cases h
theorem fS_up {ch : Nat → Int32} {p : Nat} {s : Int32} (h : (fS ch s p).2 = true) : ch p = s ∧ fS ch s p = (p + 1, true) := by
  by_cases d : ch p = s
  · exact ⟨d, if_pos d⟩
  · rw [show fS ch s p = (p, false) from if_neg d] at h; cases h
theorem fK_up {ch : Nat → Int32} {p : Nat} (h : (fK ch p).2 = true) : 0 ≤ zIx (ch p) ∧ fK ch p = (p + 1, true) := by
  by_cases d : 0 ≤ zIx (ch p)
  · exact ⟨d, if_pos d⟩
  · rw [show fK ch p = (p, false) from if_neg d] at h; cases h
theorem z1s_up {ch : Nat → Int32} {r : Nat × Bool} {k : Nat} (h : (z1s ch r k).2 = true) : (z1s ch r k).1 = r.1 + k ∧ ∀ j : Nat, j < k → dg (ch (z1s ch r j).1) := by
  induction k with
  | zero => exact ⟨rfl, fun j hj => absurd hj (Nat.not_lt_zero j)⟩
  | succ k ih =>
    obtain ⟨h1, h2⟩ := zbd_t h
    obtain ⟨i1, i2⟩ := ih h1
    have h3 : z1s ch r (k + 1) = f1 ch (z1s ch r k).1 := h2
    rw [h3] at h
    obtain ⟨d, e⟩ := f1_up h
    refine ⟨by rw [h3, e, i1]; rfl, fun j hj => ?_⟩
    by_cases z : j = k
    · subst z; exact d
    · exact i2 j (by omega)
theorem zS_up {ch : Nat → Int32} {r : Nat × Bool} {s : Int32} (h : (zbd r (fS ch s)).2 = true) : r.2 = true ∧ ch r.1 = s ∧ (zbd r (fS ch s)).1 = r.1 + 1 := by
  obtain ⟨h1, h2⟩ := zbd_t h
  rw [h2] at h ⊢
  obtain ⟨a, b⟩ := fS_up h
  exact ⟨h1, a, by rw [b]⟩
theorem zD_up {ch : Nat → Int32} {r : Nat × Bool} (h : (zbd r (f2 ch)).2 = true) : r.2 = true ∧ dg (ch r.1) ∧ r.1 + 1 ≤ (zbd r (f2 ch)).1 := by
  obtain ⟨h1, h2⟩ := zbd_t h
  rw [h2] at h ⊢
  obtain ⟨a, b⟩ := f2_up h
  exact ⟨h1, a, b⟩
theorem stR_s {ch : Nat → Int32} {p : Nat} (h : (stR ch p).2 = true) : ch p = 100 ∨ ch p = 99 ∨ ch p = 119 := by
  by_cases a : ch p = 100
  · exact Or.inl a
  · by_cases b : ch p = 99
    · exact Or.inr (Or.inl b)
    · by_cases d : ch p = 119
      · exact Or.inr (Or.inr d)
      · rw [stR_o a b d] at h; cases h
/-- a statement that is read: it has at least four letters, within the way -/
theorem stR_up {p : Nat} (h : (stR (zch L c) p).2 = true) : p + 4 ≤ (stR (zch L c) p).1 ∧ (stR (zch L c) p).1 ≤ c := by
  have lst : ∀ r : Nat × Bool, stR (zch L c) p = zbd r (fS (zch L c) 59) → (r.2 = true ∧ p + 3 ≤ r.1 → p + 4 ≤ (stR (zch L c) p).1) ∧ r.2 = true ∧ (stR (zch L c) p).1 ≤ c := by
    intro r e
    rw [e] at h ⊢
    obtain ⟨a, b, d⟩ := zS_up h
    have := zch_lt (L := L) (c := c) (p := r.1) (fun z => by rw [b] at z; exact absurd z (by decide))
    exact ⟨fun q => by omega, a, by omega⟩
  rcases stR_s h with e | e | e
  · obtain ⟨g1, g2, g3⟩ := lst _ (stR_d e)
    have := (z1s_up g2).1
    exact ⟨g1 ⟨g2, by unfold dE; rw [this]; show p + 3 ≤ p + 1 + 3; omega⟩, g3⟩
  · obtain ⟨g1, g2, g3⟩ := lst _ (stR_c e)
    obtain ⟨a, -, b⟩ := zD_up (r := z1s (zch L c) (p + 1, true) 1) g2
    have := (z1s_up a).1
    rw [this] at b
    exact ⟨g1 ⟨g2, by unfold cE; have : p + 1 + 1 + 1 ≤ _ := b; omega⟩, g3⟩
  · obtain ⟨g1, g2, g3⟩ := lst _ (stR_w e)
    have e1 := (z1s_up (ch := zch L c) (r := wD (zch L c) p) (k := 4) g2).1
    have oD : (wD (zch L c) p).2 = true := z1s_t g2 0 (Nat.zero_le _)
    have eD := zS_up (r := wC (zch L c) p) oD
    have eC := zD_up (r := wB (zch L c) p) eD.1
    have eB := zS_up (r := wA (zch L c) p) eC.1
    have eA := zD_up (r := wK (zch L c) p) eB.1
    have eK := fK_up (ch := zch L c) (p := p + 1) eA.1
    have k1 : (wK (zch L c) p).1 = p + 2 := by unfold wK; rw [eK.2]
    have d1 : (wD (zch L c) p).1 = (wC (zch L c) p).1 + 1 := eD.2.2
    have c1 : (wB (zch L c) p).1 + 1 ≤ (wC (zch L c) p).1 := eC.2.2
    have b1 : (wB (zch L c) p).1 = (wA (zch L c) p).1 + 1 := eB.2.2
    have a1 : (wK (zch L c) p).1 + 1 ≤ (wA (zch L c) p).1 := eA.2.2
    have w1 : (wE (zch L c) p).1 = (wD (zch L c) p).1 + 4 := e1
    exact ⟨g1 ⟨g2, by omega⟩, g3⟩
theorem dg_n {x : Int32} (h : dg x) : ∃ d : Nat, d ≤ 9 ∧ x = nI (d + 48) ∧ x - 48 = nI d := by
  have h0 : ¬ x < 0 := by
    intro z
    have h1 := h.1
    rw [zlt] at z h1
    have : (0 : Int32).toInt = 0 := rfl
    have : (48 : Int32).toInt = 48 := rfl
    omega
  obtain ⟨n, hn, rfl⟩ := nI_of2 (x := x) (M := 57) (n := 57) rfl h0 (znl.mp h.2)
  have h48 : 48 ≤ n := by
    rcases Nat.lt_or_ge n 48 with q | q
    · exact absurd (nI_lt (a := n) (b := 48) q (by omega)) h.1
    · exact q
  refine ⟨n - 48, by omega, by rw [show n - 48 + 48 = n by omega], ?_⟩
  rw [show (48 : Int32) = nI 48 from rfl, pk_sub h48]
theorem v1_n {ch : Nat → Int32} {p : Nat} (h : dg (ch p)) : ∃ d : Nat, d ≤ 9 ∧ v1 ch p = nI d := by
  obtain ⟨d, h1, -, h2⟩ := dg_n h
  exact ⟨d, h1, h2⟩
theorem v2_n {ch : Nat → Int32} {p : Nat} (h : dg (ch p)) : ∃ d : Nat, d ≤ 99 ∧ v2 ch p = nI d := by
  obtain ⟨d, h1, -, h2⟩ := dg_n h
  unfold v2
  by_cases z : dg (ch (p + 1))
  · obtain ⟨d', h1', h3', h2'⟩ := dg_n z
    refine ⟨d * 10 + d', by omega, ?_⟩
    rw [if_pos z, h2, h3', show (10 : Int32) = nI 10 from rfl, pk_mul, nI_add, show (48 : Int32) = nI 48 from rfl, pk_sub (by omega), show d * 10 + (d' + 48) - 48 = d * 10 + d' by omega]
  · rw [if_neg z]
    exact ⟨d, by omega, h2⟩
theorem zIx_n {x : Int32} (h : 0 ≤ zIx x) : ∃ d : Nat, d ≤ 5 ∧ zIx x = nI d := by
  unfold zIx at h ⊢
  split
  · exact ⟨0, by omega, rfl⟩
  · split
    · exact ⟨1, by omega, rfl⟩
    · split
      · exact ⟨2, by omega, rfl⟩
      · split
        · exact ⟨3, by omega, rfl⟩
        · split
          · exact ⟨4, by omega, rfl⟩
          · split
            · exact ⟨5, by omega, rfl⟩
            · rename_i a1 a2 a3 a4 a5 a6
              rw [if_neg a1, if_neg a2, if_neg a3, if_neg a4, if_neg a5, if_neg a6] at h
              exact absurd h (by decide)
/-- the numbers of a statement that is read -/
theorem stN_n {p : Nat} (h : (stR (zch L c) p).2 = true) : (zch L c p = 100 → ∀ i : Nat, i < 3 → ∃ d : Nat, d ≤ 9 ∧ stN (zch L c) p i = nI d) ∧ (zch L c p = 99 → (∃ d : Nat, d ≤ 9 ∧ stN (zch L c) p 0 = nI d) ∧ ∃ d : Nat, d ≤ 99 ∧ stN (zch L c) p 1 = nI d) ∧
    (zch L c p = 119 → (∃ d : Nat, d ≤ 5 ∧ stN (zch L c) p 0 = nI d) ∧ (∃ d : Nat, d ≤ 99 ∧ stN (zch L c) p 1 = nI d) ∧ (∃ d : Nat, d ≤ 99 ∧ stN (zch L c) p 2 = nI d) ∧ ∀ i : Nat, 3 ≤ i → i < 7 → ∃ d : Nat, d ≤ 9 ∧ stN (zch L c) p i = nI d) := by
  refine ⟨fun e i hi => ?_, fun e => ?_, fun e => ?_⟩
  · rw [stR_d e] at h
    have g := (z1s_up (zS_up h).1).2 i hi
    rw [stN_d e]
    exact v1_n g
  · rw [stR_c e] at h
    obtain ⟨a, b, -⟩ := zD_up (r := z1s (zch L c) (p + 1, true) 1) (zS_up h).1
    have g := (z1s_up a).2 0 (by decide)
    rw [stN_c0 e, stN_c1 e]
    exact ⟨v1_n g, v2_n b⟩
  · rw [stR_w e] at h
    have oE := (zS_up h).1
    have e1 := (z1s_up (ch := zch L c) (r := wD (zch L c) p) (k := 4) oE).2
    have oD : (wD (zch L c) p).2 = true := z1s_t oE 0 (Nat.zero_le _)
    have eD := zS_up (r := wC (zch L c) p) oD
    have eC := zD_up (r := wB (zch L c) p) eD.1
    have eB := zS_up (r := wA (zch L c) p) eC.1
    have eA := zD_up (r := wK (zch L c) p) eB.1
    have eK := fK_up (ch := zch L c) (p := p + 1) eA.1
    rw [stN_w e, stN_w e, stN_w e]
    refine ⟨zIx_n eK.1, v2_n eA.2.1, v2_n eC.2.1, fun i h3 h7 => ?_⟩
    rw [stN_w e, if_neg (by omega), if_neg (by omega), if_neg (by omega)]
    exact v1_n (e1 (i - 3) (by omega))
/-- the places at which the statements begin; where it ends, or fails -/
def stL (ch : Nat → Int32) (c : Nat) : Nat → Nat → List Nat × (Nat × Bool)
  | 0, p => ([], (p, true))
  | f + 1, p => if (stR ch p).2 = true then (if (stR ch p).1 < c then (p :: (stL ch c f (stR ch p).1).1, (stL ch c f (stR ch p).1).2) else ([p], stR ch p)) else ([], stR ch p)
theorem stL_m {ch : Nat → Int32} {c f p : Nat} (h : (stR ch p).2 = true) (h2 : (stR ch p).1 < c) : stL ch c (f + 1) p = (p :: (stL ch c f (stR ch p).1).1, (stL ch c f (stR ch p).1).2) := by
  show (if (stR ch p).2 = true then _ else _) = _
  rw [if_pos h, if_pos h2]
theorem stL_e {ch : Nat → Int32} {c f p : Nat} (h : (stR ch p).2 = true) (h2 : ¬ (stR ch p).1 < c) : stL ch c (f + 1) p = ([p], stR ch p) := by
  show (if (stR ch p).2 = true then _ else _) = _
  rw [if_pos h, if_neg h2]
theorem stL_f {ch : Nat → Int32} {c f p : Nat} (h : ¬ (stR ch p).2 = true) : stL ch c (f + 1) p = ([], stR ch p) := by
  show (if (stR ch p).2 = true then _ else _) = _
  rw [if_neg h]
/-- whether a statement is as it must be, when so many walkers are told -/
abbrev gd (ch : Nat → Int32) (w p : Nat) : Prop := if ch p = 100 then ¬ stN ch p 0 < 1 else if ch p = 99 then ¬ 6 < stN ch p 0 ∧ ¬ 40 < stN ch p 1 else w < 8 ∧ ¬ stN ch p 2 < 1 ∧ ¬ 40 < stN ch p 2 ∧ ¬ stN ch p 3 < 1 ∧ ¬ 4 < stN ch p 3 ∧ ¬ 2 < stN ch p 4 ∧ (stN ch p 5 = 0 ∨ stN ch p 5 = 1)
def nw (ch : Nat → Int32) (w p : Nat) : Nat := if ch p = 119 then w + 1 else w
theorem gd_d {ch : Nat → Int32} {w p : Nat} (h : ch p = 100) : gd ch w p ↔ ¬ stN ch p 0 < 1 := by
  unfold gd
  rw [if_pos h]
theorem gd_c {ch : Nat → Int32} {w p : Nat} (h : ch p = 99) : gd ch w p ↔ (¬ 6 < stN ch p 0 ∧ ¬ 40 < stN ch p 1) := by
  unfold gd
  rw [if_neg (by rw [h]; decide), if_pos h]
theorem gd_w {ch : Nat → Int32} {w p : Nat} (h : ch p = 119) : gd ch w p ↔ (w < 8 ∧ ¬ stN ch p 2 < 1 ∧ ¬ 40 < stN ch p 2 ∧ ¬ stN ch p 3 < 1 ∧ ¬ 4 < stN ch p 3 ∧ ¬ 2 < stN ch p 4 ∧ (stN ch p 5 = 0 ∨ stN ch p 5 = 1)) := by
  unfold gd
  rw [if_neg (by rw [h]; decide), if_neg (by rw [h]; decide)]
/-- the first that is wrong -/
def fw (ch : Nat → Int32) : List Nat → Nat → Option Nat
  | [], _ => none
  | p :: l, w => if gd ch w p then fw ch l (nw ch w p) else some p
theorem fw_y {ch : Nat → Int32} {p w : Nat} {l : List Nat} (h : gd ch w p) : fw ch (p :: l) w = fw ch l (nw ch w p) := if_pos h
theorem fw_n {ch : Nat → Int32} {p w : Nat} {l : List Nat} (h : ¬ gd ch w p) : fw ch (p :: l) w = some p := if_neg h
end WY

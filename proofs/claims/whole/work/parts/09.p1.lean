/-! pure rows: the words of the class's small methods -/
theorem zin {i : Int32} {n : Nat} (hn : n < 2 ^ 31) (h0 : ¬ i < 0) (h1 : ¬ nI n ≤ i) : vp_in i n := by
  rcases pk_ix i hn with h | h | ⟨j, hj, rfl⟩
  · exact absurd h h0
  · exact absurd h h1
  · exact vp_in_nI hj hn
theorem zlt (a b : Int32) : a < b ↔ a.toInt < b.toInt := Int32.lt_iff_toInt_lt
theorem zle (a b : Int32) : a ≤ b ↔ a.toInt ≤ b.toInt := Int32.le_iff_toInt_le
theorem zeq (a b : Int32) : a = b ↔ a.toInt = b.toInt := Int32.toInt_inj.symm
theorem znl {a b : Int32} : ¬ a < b ↔ b ≤ a := by rw [zlt, zle]; omega
theorem znle {a b : Int32} : ¬ a ≤ b ↔ b < a := by rw [zlt, zle]; omega
theorem zcl {j : Nat} (h : j < 1000) : (nI j).toNatClampNeg = j := nI_clamp (by omega)
theorem zb {A B C : Prop} [Decidable C] (a : C → A) (b : ¬ C → B) : (C → A) ∧ (¬ C → B) := ⟨a, b⟩
theorem zt {A B C : Prop} (h : C) (a : A) : (C → A) ∧ (¬ C → B) := ⟨fun _ => a, fun n => absurd h n⟩
theorem zf {A B C : Prop} (h : ¬ C) (b : B) : (C → A) ∧ (¬ C → B) := ⟨fun n => absurd n h, fun _ => b⟩
theorem R_at {n j : Nat} {f : Nat → Int32} {i : Int32} {Q : Int32 → Prop} (hi : i = nI j) (hj : j < n) (hn : n < 1000) (h : Q (f j)) : wp_X4_at n f i Q := by
  subst hi
  refine zf (nI_pos (by omega)) (zf (nI_ge hj (by omega)) ⟨vp_in_nI hj (by omega), ?_⟩)
  rw [zcl (by omega)]
  exact h
theorem R_at0 {n : Nat} {f : Nat → Int32} {i : Int32} {Q : Int32 → Prop} (hi : i < 0) (h : Q 0) : wp_X4_at n f i Q := zt hi h
theorem R_put {n j : Nat} {f : Nat → Int32} {i v : Int32} {Q : (Nat → Int32) → Prop} (hi : i = nI j) (hj : j < n) (hn : n < 1000) (h : Q (upd f j v)) : wp_X4_put n i v f Q := by
  subst hi
  refine zf (nI_pos (by omega)) (zf (nI_ge hj (by omega)) ⟨vp_in_nI hj (by omega), ?_⟩)
  rw [zcl (by omega)]
  rintro _ rfl
  exact h
/-- what is told of walker w -/
def tv (T : zT) (w k : Nat) : Int32 := T 1 (w * 7 + k)
theorem R_of {T : zT} {w k : Nat} {i q : Int32} {Q : Int32 → Prop} (hi : i = nI w) (hq : q = nI k) (hw : w < 8) (hk : k < 7) (h : Q (tv T w k)) : wp_X3_of T i q Q := by
  subst hi hq
  have e : nI w * 7 + nI k = nI (w * 7 + k) := by
    rw [show (7 : Int32) = nI 7 from rfl, pk_mul, nI_add]
  intro y hy
  rw [e] at hy
  subst hy
  refine zf (nI_pos (by omega)) (zf ?_ ⟨vp_in_nI (by omega) (by omega), ?_⟩)
  · exact nI_ge (a := w * 7 + k) (b := 56) (by omega) (by omega)
  · rw [zcl (by omega)]
    exact h
theorem R_door {T : zT} {k : Nat} {q : Int32} {Q : Int32 → Prop} (hq : q = nI k) (hk : k < 5) (h : Q (T 0 k)) : wp_X3_door T q Q := by
  subst hq
  refine zf (nI_pos (by omega)) (zf (nI_ge (b := 5) hk (by omega)) ⟨vp_in_nI (by omega) (by omega), ?_⟩)
  rw [zcl (by omega)]
  exact h
def pDiv (a b : Int32) : Int32 := if 1 ≤ b then (a + b - 1) / b else 0
theorem R_div {a b : Int32} {Q : Int32 → Prop} (h : Q (pDiv a b)) : wp_X4_divideUp a b Q := by
  unfold pDiv at h
  refine ⟨fun c => ⟨fun e => ?_, ?_⟩, fun c => ?_⟩
  · subst e; exact absurd c (by decide)
  · rw [if_pos c] at h; exact h
  · rw [if_neg c] at h; exact h
def pFilm (c far l b : Int32) : Int32 := if c = 1 then far else if c = 2 then (if l = 1 then far + 4 else far) else if c = 3 then far + 2 * b else 0
theorem R_film {c far l b : Int32} {Q : Int32 → Prop} (h : Q (pFilm c far l b)) : wp_X4_filmUpTo c far l b Q := by
  unfold pFilm at h
  refine ⟨fun c1 => ?_, fun c1 => ⟨fun c2 => ⟨fun c3 => ?_, fun c3 => ?_⟩, fun c2 => ⟨fun c3 => ?_, fun c3 => ?_⟩⟩⟩
  · rw [if_pos c1] at h; exact h
  · rw [if_neg c1, if_pos c2, if_pos c3] at h; exact h
  · rw [if_neg c1, if_pos c2, if_neg c3] at h; exact h
  · rw [if_neg c1, if_neg c2, if_pos c3] at h; exact h
  · rw [if_neg c1, if_neg c2, if_neg c3] at h; exact h
def sThere (T : zT) (w : Nat) : Int32 := tv T w 1 + pDiv (tv T w 2) (tv T w 3)
theorem R_there {T : zT} {w : Nat} {i : Int32} {Q : Int32 → Prop} (hi : i = nI w) (hw : w < 8) (h : Q (sThere T w)) : wp_X3_thereFrom T i Q :=
  R_of (k := 1) hi rfl hw (by decide) (R_of (k := 2) hi rfl hw (by decide) (R_of (k := 3) hi rfl hw (by decide) (R_div h)))
def sYH (T : zT) (w : Nat) : Int32 := if tv T w 0 = 1 then 2 * tv T w 3 else if tv T w 0 = 2 then 2 * tv T w 3 + 1 else if tv T w 0 = 3 then (if 1 < tv T w 3 - tv T w 4 then tv T w 3 - tv T w 4 else 1) else if tv T w 0 = 4 then tv T w 3 else if tv T w 0 = 5 then 2 * tv T w 3 else tv T w 3
theorem R_yh {T : zT} {w : Nat} {i : Int32} {Q : Int32 → Prop} (hi : i = nI w) (hw : w < 8) (h : Q (sYH T w)) : wp_X3_yardsHeldFor T i Q := by
  unfold sYH at h
  refine R_of (k := 3) hi rfl hw (by decide) (R_of (k := 0) hi rfl hw (by decide) ?_)
  refine ⟨fun c => ?_, fun c => ⟨fun c2 => ?_, fun c2 => ⟨fun c3 => R_of (k := 4) hi rfl hw (by decide) ?_, fun c3 => ⟨fun c4 => ?_, fun c4 => ⟨fun c5 => ?_, fun c5 => ?_⟩⟩⟩⟩⟩
  · rw [if_pos c] at h; exact h
  · rw [if_neg c, if_pos c2] at h; exact h
  · rw [if_neg c, if_neg c2, if_pos c3] at h; exact h
  · rw [if_neg c, if_neg c2, if_neg c3, if_pos c4] at h; exact h
  · rw [if_neg c, if_neg c2, if_neg c3, if_neg c4, if_pos c5] at h; exact h
  · rw [if_neg c, if_neg c2, if_neg c3, if_neg c4, if_neg c5] at h; exact h
def sGo (T : zT) (w : Nat) (t : Int32) : Int32 := tv T w 2 - tv T w 3 * (t - tv T w 1)
theorem R_go {T : zT} {w : Nat} {i t : Int32} {Q : Int32 → Prop} (hi : i = nI w) (hw : w < 8) (h : Q (sGo T w t)) : wp_X3_yardsToGo T i t Q :=
  R_of (k := 2) hi rfl hw (by decide) (R_of (k := 3) hi rfl hw (by decide) (R_of (k := 1) hi rfl hw (by decide) h))
def sOp0 (T : zT) (w : Nat) : Int32 := T 0 1 + tv T w 4 - (if tv T w 0 = 4 then 1 else 0)
def sOpn (T : zT) (w : Nat) : Int32 := if 0 < sOp0 T w then sOp0 T w else 0
theorem R_opn {T : zT} {w : Nat} {i : Int32} {Q : Int32 → Prop} (hi : i = nI w) (hw : w < 8) (h : Q (sOpn T w)) : wp_X3_secondsToOpen T i Q := by
  unfold sOpn sOp0 at h
  refine R_of (k := 0) hi rfl hw (by decide) ⟨fun c => R_door (k := 1) rfl (by decide) (R_of (k := 4) hi rfl hw (by decide) ?_), fun c => R_door (k := 1) rfl (by decide) (R_of (k := 4) hi rfl hw (by decide) ?_)⟩
  · rw [if_pos c] at h; exact h
  · rw [if_neg c] at h; exact h
def sUp (T : zT) (one next : Nat) (held : Int32) : Int32 :=
  if tv T one 0 = 5 then 0 else if T 0 4 = 4 then 40 else if T 0 4 = 5 then (if held = 0 then 0 else T 0 3) else if T 0 4 = 6 then
    (if 0 < pFilm 2 (T 0 3) (tv T next 5) 0 + tv T next 6 - tv T one 6 then pFilm 2 (T 0 3) (tv T next 5) 0 + tv T next 6 - tv T one 6 else 0)
  else pFilm (T 0 4) (T 0 3) (tv T next 5) (tv T next 4)
theorem R_up {T : zT} {w x : Nat} {i j held : Int32} {Q : Int32 → Prop} (hi : i = nI w) (hj : j = nI x) (hw : w < 8) (hx : x < 8) (h : Q (sUp T w x held)) : wp_X3_holdsUpTo T i j held Q := by
  unfold sUp at h
  refine R_of (k := 0) hi rfl hw (by decide) ⟨fun c => ?_, fun c => R_door (k := 3) rfl (by decide) (R_of (k := 5) hj rfl hx (by decide) (R_door (k := 4) rfl (by decide) ⟨fun c2 => ?_, fun c2 => ⟨fun c3 => ⟨fun c4 => ?_, fun c4 => ?_⟩, fun c3 => ⟨fun c4 => R_film (R_of (k := 6) hj rfl hx (by decide) (R_of (k := 6) hi rfl hw (by decide) ?_)), fun c4 => R_door (k := 4) rfl (by decide) (R_of (k := 4) hj rfl hx (by decide) (R_film ?_))⟩⟩⟩))⟩
  · rw [if_pos c] at h; exact h
  · rw [if_neg c, if_pos c2] at h; exact h
  · rw [if_neg c, if_neg c2, if_pos c3, if_pos c4] at h; exact h
  · rw [if_neg c, if_neg c2, if_pos c3, if_neg c4] at h; exact h
  · rw [if_neg c, if_neg c2, if_neg c3, if_pos c4] at h; exact h
  · rw [if_neg c, if_neg c2, if_neg c3, if_neg c4] at h; exact h
theorem R_has {T : zT} {n : Nat} {i : Int32} {Q : Int32 → Prop} (hn : T 2 0 = nI n) (h8 : n ≤ 8) (hy : ∀ w : Nat, w < n → i = nI w → Q 1) (hno : (i < 0 ∨ nI n ≤ i) → Q 0) : wp_X3_has T i Q := by
  refine ⟨fun c => hno (Or.inl c), fun c => ⟨fun c2 => hno (Or.inr (hn ▸ c2)), fun c2 => ?_⟩⟩
  rw [hn] at c2
  rcases pk_ix i (n := n) (by omega) with h | h | ⟨j, hj, e⟩
  · exact absurd h c
  · exact absurd h c2
  · exact hy j hj e
/-- seconds that one who is through at t stands for the next one; held: whether it was held for him -/
def sSec (T : zT) (t : Int32) (one next : Nat) (held : Int32) : Int32 :=
  if t < tv T next 1 then 0 else if 0 < sGo T next t then (if sGo T next t ≤ sUp T one next held then pDiv (sGo T next t) (sYH T next) else 0) else 0
theorem R_sec {T G : zT} {w x : Nat} {i j : Int32} {Q : Int32 → Prop} (hi : i = nI w) (hj : j = nI x) (hw : w < 8) (hx : x < 8) (h : Q (sSec T (G 2 w) w x (if G 5 w < 0 then 0 else 1))) : wp_X1_secondsHeldFor G T i j Q := by
  unfold sSec at h
  refine R_at hi hw (by decide) (R_go hj hx (R_of (k := 1) hj rfl hx (by decide) ⟨fun c => ?_, fun c => ⟨fun c2 => R_at hi hw (by decide) ⟨fun c3 => R_up hi hj hw hx ⟨fun c4 => R_yh hj hx (R_div ?_), fun c4 => ?_⟩, fun c3 => R_up hi hj hw hx ⟨fun c4 => R_yh hj hx (R_div ?_), fun c4 => ?_⟩⟩, fun c2 => ?_⟩⟩))
  · rw [if_pos c] at h; exact h
  · rw [if_neg c, if_pos c2, if_pos c3, if_pos c4] at h; exact h
  · rw [if_neg c, if_pos c2, if_pos c3, if_neg c4] at h; exact h
  · rw [if_neg c, if_pos c2, if_neg c3, if_pos c4] at h; exact h
  · rw [if_neg c, if_pos c2, if_neg c3, if_neg c4] at h; exact h
  · rw [if_neg c, if_neg c2] at h; exact h

/-! letters are read: what both do -/
abbrev dg (x : Int32) : Prop := ¬ x < 48 ∧ ¬ 57 < x
def zch (L : zT) (c p : Nat) : Int32 := if p < c then L 0 p else -1
def zbd (r : Nat × Bool) (f : Nat → Nat × Bool) : Nat × Bool := if r.2 = true then f r.1 else r
section PRS
variable (ch : Nat → Int32)
def fS (s : Int32) (p : Nat) : Nat × Bool := if ch p = s then (p + 1, true) else (p, false)
def f1 (p : Nat) : Nat × Bool := if dg (ch p) then (p + 1, true) else (p, false)
def f2 (p : Nat) : Nat × Bool := if dg (ch p) then (if dg (ch (p + 1)) then p + 2 else p + 1, true) else (p, false)
def fK (p : Nat) : Nat × Bool := if 0 ≤ zIx (ch p) then (p + 1, true) else (p, false)
def v1 (p : Nat) : Int32 := ch p - 48
def v2 (p : Nat) : Int32 := if dg (ch (p + 1)) then (ch p - 48) * 10 + ch (p + 1) - 48 else ch p - 48
def z1s (r : Nat × Bool) : Nat → Nat × Bool
  | 0 => r
  | k + 1 => zbd (z1s r k) (f1 ch)
def wK (p : Nat) : Nat × Bool := fK ch (p + 1)
def wA (p : Nat) : Nat × Bool := zbd (wK ch p) (f2 ch)
def wB (p : Nat) : Nat × Bool := zbd (wA ch p) (fS ch 44)
def wC (p : Nat) : Nat × Bool := zbd (wB ch p) (f2 ch)
def wD (p : Nat) : Nat × Bool := zbd (wC ch p) (fS ch 44)
def dE (p : Nat) : Nat × Bool := z1s ch (p + 1, true) 3
def cE (p : Nat) : Nat × Bool := zbd (z1s ch (p + 1, true) 1) (f2 ch)
def wE (p : Nat) : Nat × Bool := z1s ch (wD ch p) 4
def stR (p : Nat) : Nat × Bool := if ch p = 100 then zbd (dE ch p) (fS ch 59) else if ch p = 99 then zbd (cE ch p) (fS ch 59) else if ch p = 119 then zbd (wE ch p) (fS ch 59) else (p, false)
def zcnt (b : Int32) : Nat := if b = 100 then 3 else if b = 99 then 2 else 7
def stN (p i : Nat) : Int32 := if ch p = 100 then v1 ch (z1s ch (p + 1, true) i).1 else if ch p = 99 then (if i = 0 then v1 ch (p + 1) else v2 ch (z1s ch (p + 1, true) 1).1) else if i = 0 then zIx (ch (p + 1)) else if i = 1 then v2 ch (wK ch p).1 else if i = 2 then v2 ch (wB ch p).1 else v1 ch (z1s ch (wD ch p) (i - 3)).1
end PRS
theorem zbd_t {r : Nat × Bool} {f : Nat → Nat × Bool} (h : (zbd r f).2 = true) : r.2 = true ∧ zbd r f = f r.1 := by
  unfold zbd at h ⊢
  by_cases c : r.2 = true
  · rw [if_pos c] at h ⊢; exact ⟨c, rfl⟩
  · rw [if_neg c] at h; exact absurd h c
theorem zbd_y {r : Nat × Bool} {f : Nat → Nat × Bool} (h : r.2 = true) : zbd r f = f r.1 := if_pos h
theorem zbd_n {r : Nat × Bool} {f : Nat → Nat × Bool} (h : ¬ r.2 = true) : zbd r f = r := if_neg h
def fT (b : Int32) (p : Nat) : Nat × Bool := if b = 0 then (p, false) else (p + 1, true)
theorem fT_0 {b : Int32} {p : Nat} (h : b = 0) : fT b p = (p, false) := if_pos h
theorem fT_1 {b : Int32} {p : Nat} (h : ¬ b = 0) : fT b p = (p + 1, true) := if_neg h
theorem zbd_1 {p : Nat} {f : Nat → Nat × Bool} : zbd (p, true) f = f p := rfl
theorem zbd_0 {p : Nat} {f : Nat → Nat × Bool} : zbd (p, false) f = (p, false) := rfl
theorem z1s_t {ch : Nat → Int32} {r : Nat × Bool} {k : Nat} (h : (z1s ch r k).2 = true) : ∀ j : Nat, j ≤ k → (z1s ch r j).2 = true := by
  induction k with
  | zero =>
    intro j hj
    obtain rfl : j = 0 := by omega
    exact h
  | succ k ih =>
    intro j hj
    by_cases c : j = k + 1
    · subst c; exact h
    · exact ih (zbd_t h).1 j (by omega)
section RD
variable {L : zT} {c : Nat}
/-- the letters' object, at a place; whether it has not failed -/
def zst (L : zT) (c : Nat) (S : zT) (r : Nat × Bool) : Prop := S 0 = L 0 ∧ S 1 0 = nI c ∧ S 2 0 = nI r.1 ∧ r.1 ≤ c ∧ S 3 0 = if r.2 = true then 0 else 1
theorem zst_0 {S : zT} {r : Nat × Bool} (h : zst L c S r) (hr : r.2 = true) : S 3 0 = 0 := by
  rw [h.2.2.2.2, if_pos hr]
theorem zst_1 {S : zT} {r : Nat × Bool} (h : zst L c S r) (hr : ¬ r.2 = true) : ¬ S 3 0 = 0 := by
  rw [h.2.2.2.2, if_neg hr]; decide
theorem R_here {S : zT} {r : Nat × Bool} {Q : Int32 → Prop} (hc : c ≤ 80) (h : zst L c S r) (q : Q (zch L c r.1)) : wp_X2_here S Q := by
  obtain ⟨s0, s1, s2, s4, -⟩ := h
  unfold wp_X2_here
  rw [s0, s1, s2]
  refine zf (nI_pos (by omega)) ?_
  by_cases z : r.1 < c
  · refine zf (nI_ge z (by omega)) (zf (nI_ge (b := 80) (by omega) (by omega)) ⟨vp_in_nI (by omega) (by decide), ?_⟩)
    rw [zcl (by omega)]
    unfold zch at q
    rw [if_pos z] at q
    exact q
  · unfold zch at q
    rw [if_neg z] at q
    exact zt (nI_le (by omega) (by omega)) q
theorem R_take {S : zT} {r : Nat × Bool} {b : Int32} {Q : zT → Prop} (h : zst L c S r) (hc : ¬ b = 0 → r.2 = true → r.1 < c) (q : ∀ S' : zT, S' 4 = S 4 → zst L c S' (zbd r (fT b)) → Q S') : wp_X2_take b S Q := by
  obtain ⟨s0, s1, s2, s4, s3⟩ := id h
  have bad : (zbd r (fT b)) = (r.1, false) → wpb_X2_take_11 b Q S := by
    intro e
    unfold wpb_X2_take_11
    rintro _ rfl
    refine q _ (va_up_ne _ _ (by decide)) ?_
    rw [e]
    exact ⟨s0, s1, s2, s4, by rw [va_up_self]; rfl⟩
  by_cases z : r.2 = true
  · refine zt (zst_0 h z) ⟨fun b0 => bad ?_, fun b0 => ?_⟩
    · rw [zbd_y z, fT_0 b0]
    · rintro _ rfl
      refine q _ (va_up_ne _ _ (by decide)) ?_
      rw [zbd_y z, fT_1 b0]
      exact ⟨s0, s1, by rw [va_up_self, s2, nI_1], by have := hc b0 z; show r.1 + 1 ≤ c; omega, by rw [va_up_ne _ _ (by decide), s3, if_pos z]; rfl⟩
  · refine zf (zst_1 h z) (bad ?_)
    rw [zbd_n z]
    obtain ⟨a, b⟩ := r
    cases b
    · rfl
    · exact absurd rfl z
theorem zch_lt {p : Nat} (h : ¬ zch L c p = -1) : p < c := by
  unfold zch at h
  by_cases z : p < c
  · exact z
  · rw [if_neg z] at h; exact absurd rfl h
theorem zch_dg {p : Nat} (h : dg (zch L c p)) : p < c := zch_lt (fun e => by rw [e] at h; exact absurd h (by decide))
theorem R_sign {S : zT} {r : Nat × Bool} {s : Int32} {Q : zT → Prop} (hc : c ≤ 80) (hs : ¬ s = -1) (h : zst L c S r) (q : ∀ S' : zT, S' 4 = S 4 → zst L c S' (zbd r (fS (zch L c) s)) → Q S') : wp_X2_readSign s S Q := by
  refine R_here hc h ⟨fun e => ?_, fun e => ?_⟩
  · unfold wpb_X2_readSign_14
    refine R_take h (fun _ _ => zch_lt (fun z => hs (e.symm.trans z))) (fun S' a b => q S' a ?_)
    have : zbd r (fS (zch L c) s) = zbd r (fT 1) := by
      by_cases z : r.2 = true
      · rw [zbd_y z, zbd_y z, fT_1 (by decide)]
        exact if_pos e
      · rw [zbd_n z, zbd_n z]
    rw [this]
    exact b
  · unfold wpb_X2_readSign_14
    refine R_take h (fun a => absurd rfl a) (fun S' a b => q S' a ?_)
    have : zbd r (fS (zch L c) s) = zbd r (fT 0) := by
      by_cases z : r.2 = true
      · rw [zbd_y z, zbd_y z, fT_0 rfl]
        exact if_neg e
      · rw [zbd_n z, zbd_n z]
    rw [this]
    exact b
theorem R_isd {S : zT} {r : Nat × Bool} {Q : Int32 → Prop} (hc : c ≤ 80) (h : zst L c S r) (q : Q (if dg (zch L c r.1) then 1 else 0)) : wp_X2_isDigitHere S Q := by
  refine R_here hc h ⟨fun a => ?_, fun a => R_here hc h ⟨fun b => ?_, fun b => ?_⟩⟩
  · rw [if_neg (fun d => d.1 a)] at q; exact q
  · rw [if_neg (fun d => d.2 b)] at q; exact q
  · rw [if_pos ⟨a, b⟩] at q; exact q
/-- one digit goes to place i -/
theorem R_one {S : zT} {r : Nat × Bool} {i : Nat} {Q : zT → Prop} (hc : c ≤ 80) (hi : i < 7) (h : zst L c S r) (q : ∀ S' : zT, S' 4 = upd (S 4) i (v1 (zch L c) r.1) → zst L c S' (zbd r (f1 (zch L c))) → Q S') :
    wp_X2_here S (fun r13 : Int32 => (wp_X4_put 7 (nI i) (r13 - (48 : Int32)) (S 4) (fun (gf0_19 : Nat → Int32) => (∀ S_19 : zT, S_19 = (va_up S 4 gf0_19) → (wp_X2_isDigitHere S_19 (fun r24 : Int32 => (wp_X2_take r24 S_19 (fun (S_27 : zT) => Q S_27)))))))) := by
  refine R_here hc h (R_put rfl hi (by decide) ?_)
  rintro _ rfl
  have h' : zst L c (va_up S 4 (upd (S 4) i (zch L c r.1 - 48))) r := by
    obtain ⟨s0, s1, s2, s4, s3⟩ := h
    exact ⟨s0, s1, s2, s4, s3⟩
  refine R_isd hc h' (R_take h' (fun a _ => ?_) (fun S' a b => q S' (a.trans (va_up_self _ _ _)) ?_))
  · by_cases z : dg (zch L c r.1)
    · exact zch_dg z
    · rw [if_neg z] at a; exact absurd rfl a
  · have : zbd r (f1 (zch L c)) = zbd r (fT (if dg (zch L c r.1) then 1 else 0)) := by
      by_cases z : r.2 = true
      · rw [zbd_y z, zbd_y z]
        by_cases y : dg (zch L c r.1)
        · rw [if_pos y, fT_1 (by decide)]
          exact if_pos y
        · rw [if_neg y, fT_0 rfl]
          exact if_neg y
      · rw [zbd_n z, zbd_n z]
    rw [this]
    exact b
/-- m digits from place a on -/
theorem R_dig {S : zT} {r : Nat × Bool} {a m : Nat} {i1 i2 : Int32} {Q : zT → Prop} (hc : c ≤ 80) (e1 : i1 = nI a) (e2 : i2 = nI (a + m)) (ha : a + m < 7) (h : zst L c S r) (q : ∀ S' : zT, (∀ j : Nat, j ≤ m → S' 4 (a + j) = v1 (zch L c) (z1s (zch L c) r j).1) → (∀ j : Nat, (j < a ∨ a + m < j) → S' 4 j = S 4 j) → zst L c S' (z1s (zch L c) r (m + 1)) → Q S') : wp_X2_readDigits i1 i2 S Q := by
  subst e1 e2
  have key : ∀ (x k : Nat) (A : zT), k + x = m + 1 → (∀ j : Nat, j < k → A 4 (a + j) = v1 (zch L c) (z1s (zch L c) r j).1) → (∀ j : Nat, (j < a ∨ a + k ≤ j) → A 4 j = S 4 j) → zst L c A (z1s (zch L c) r k) → wpl_X2_readDigits_2 (nI a) (nI (a + m)) Q (x + 1) (nI (a + k)) A := by
    intro x
    induction x with
    | zero =>
      intro k A hk h1 h2 h3
      obtain rfl : k = m + 1 := by omega
      exact zt (nI_lt (by omega) (by omega)) (q A (fun j hj => h1 j (by omega)) (fun j hj => h2 j (by omega)) h3)
    | succ x ih =>
      intro k A hk h1 h2 h3
      refine zf (nI_nlt (by omega) (by omega)) (R_one hc (by omega) h3 (fun A' g1 g2 => ?_))
      rintro _ rfl
      rw [show nI (a + k) + (1 : Int32) = nI (a + (k + 1)) from nI_1 (a + k)]
      refine ih (k + 1) A' (by omega) (fun j hj => ?_) (fun j hj => ?_) g2
      · rw [g1]
        by_cases z : j = k
        · subst z; rw [pk_us]
        · rw [pk_un (by omega)]; exact h1 j (by omega)
      · rw [g1, pk_un (by omega)]
        exact h2 j (by omega)
  exact ⟨m + 2, key (m + 1) 0 S (by omega) (fun j hj => absurd hj (Nat.not_lt_zero j)) (fun _ _ => rfl) h⟩
theorem R_num {S : zT} {r : Nat × Bool} {i : Nat} {i1 : Int32} {Q : zT → Prop} (hc : c ≤ 80) (e1 : i1 = nI i) (hi : i < 7) (h : zst L c S r) (q : ∀ S' : zT, ((zbd r (f2 (zch L c))).2 = true → S' 4 i = v2 (zch L c) r.1) → (∀ j : Nat, j ≠ i → S' 4 j = S 4 j) → zst L c S' (zbd r (f2 (zch L c))) → Q S') : wp_X2_readNumber i1 S Q := by
  refine R_dig (m := 0) (r := r) hc e1 e1 hi h (fun A g1 g2 g3 => ?_)
  have g0 : A 4 i = v1 (zch L c) r.1 := g1 0 (Nat.le_refl _)
  have g2' : ∀ j : Nat, j ≠ i → A 4 j = S 4 j := fun j hj => g2 j (by omega)
  replace g3 : zst L c A (zbd r (f1 (zch L c))) := g3
  by_cases z : r.2 = true
  · have e : zbd r (f1 (zch L c)) = f1 (zch L c) r.1 := zbd_y z
    have e' : zbd r (f2 (zch L c)) = f2 (zch L c) r.1 := zbd_y z
    rw [e] at g3
    rw [e'] at q
    by_cases y : dg (zch L c r.1)
    · have ee : f1 (zch L c) r.1 = (r.1 + 1, true) := by unfold f1; rw [if_pos y]
      rw [ee] at g3
      refine zt (zst_0 g3 rfl) (R_isd hc g3 ?_)
      by_cases x : dg (zch L c (r.1 + 1))
      · have fe : f2 (zch L c) r.1 = (r.1 + 2, true) := by unfold f2; rw [if_pos y, if_pos x]
        rw [fe] at q
        rw [if_pos x]
        refine zf (by decide) (R_at e1 hi (by decide) (R_here hc g3 (R_put e1 hi (by decide) ?_)))
        rintro _ rfl
        rintro _ rfl
        obtain ⟨s0, s1, s2, s4, s3⟩ := g3
        refine q _ (fun _ => ?_) (fun j hj => ?_) ⟨s0, s1, ?_, ?_, s3⟩
        · rw [va_up_ne _ _ (by decide), va_up_self, pk_us, g0]
          unfold v2 v1
          rw [if_pos x]
        · rw [va_up_ne _ _ (by decide), va_up_self, pk_un hj]
          exact g2' j hj
        · rw [va_up_self, va_up_ne _ _ (by decide), s2, nI_1]
        · have := zch_dg x
          show r.1 + 2 ≤ c
          omega
      · have fe : f2 (zch L c) r.1 = (r.1 + 1, true) := by unfold f2; rw [if_pos y, if_neg x]
        rw [fe] at q
        rw [if_neg x]
        refine zt rfl (q A (fun _ => ?_) g2' g3)
        rw [g0]
        unfold v2 v1
        rw [if_neg x]
    · have ee : f1 (zch L c) r.1 = (r.1, false) := by unfold f1; rw [if_neg y]
      have fe : f2 (zch L c) r.1 = (r.1, false) := by unfold f2; rw [if_neg y]
      rw [ee] at g3
      rw [fe] at q
      exact zf (zst_1 g3 (fun a => by cases a)) (q A (fun a => by cases a) g2' g3)
  · have e : zbd r (f1 (zch L c)) = r := zbd_n z
    have e' : zbd r (f2 (zch L c)) = r := zbd_n z
    rw [e] at g3
    rw [e'] at q
    exact zf (zst_1 g3 z) (q A (fun a => absurd a z) g2' g3)
theorem zst_ch {S : zT} {p : Nat} (hv : ∀ i : Nat, i < c → ∃ v : Nat, v < 256 ∧ L 0 i = nI v) : zch L c p = -1 ∨ ∃ v : Nat, v < 256 ∧ zch L c p = nI v := by
  unfold zch
  by_cases z : p < c
  · rw [if_pos z]; exact Or.inr (hv p z)
  · rw [if_neg z]; exact Or.inl rfl
theorem zi2c : ∀ v, v < 256 → ((nI v).toUInt32 % 65536).toInt32 = nI v := by decide +kernel
theorem R_kind {S : zT} {r : Nat × Bool} {Q : zT → Prop} (hc : c ≤ 80) (hv : ∀ i : Nat, i < c → ∃ v : Nat, v < 256 ∧ L 0 i = nI v) (h : zst L c S r) (q : ∀ S' : zT, S' 4 = upd (S 4) 0 (zIx (zch L c r.1)) → zst L c S' (zbd r (fK (zch L c))) → Q S') : wp_X2_readKind S Q := by
  have go : ∀ k : Int32, k = zIx (zch L c r.1) → wpb_X2_readKind_21 Q k S := by
    intro k hk
    have fin : ∀ t : Int32, (t = 0 ↔ k < 0) → wpb_X2_readKind_32 Q k t S := by
      intro t ht
      unfold wpb_X2_readKind_32
      refine R_take h (fun a _ => zch_lt (L := L) (fun e => a (ht.mpr ?_))) (fun A g1 g2 => R_put rfl (j := 0) (by decide) (by decide) ?_)
      · rw [hk, e]; decide
      · rintro _ rfl
        obtain ⟨s0, s1, s2, s4, s3⟩ := g2
        refine q _ (by rw [va_up_self, g1, hk]) ?_
        have e : zbd r (fK (zch L c)) = zbd r (fT t) := by
          by_cases z : r.2 = true
          · rw [zbd_y z, zbd_y z]
            by_cases y : t = 0
            · rw [fT_0 y]
              exact if_neg (by rw [← hk]; exact znle.mpr (ht.mp y))
            · rw [fT_1 y]
              exact if_pos (by rw [← hk]; exact znl.mp (fun a => y (ht.mpr a)))
          · rw [zbd_n z, zbd_n z]
        rw [e]
        exact ⟨s0, s1, s2, s4, s3⟩
    unfold wpb_X2_readKind_21
    refine ⟨fun a => fin 0 ⟨fun _ => a, fun _ => rfl⟩, fun a => fin 1 ⟨fun b => absurd b (by decide), fun b => absurd b a⟩⟩
  refine R_here hc h ⟨fun a => R_here hc h ?_, fun a => go (-1) ?_⟩
  · show wpb_X2_readKind_21 Q _ S
    refine go _ ?_
    rcases zst_ch (S := S) (p := r.1) hv with e | ⟨v, hv8, e⟩
    · rw [e] at a; exact absurd a (by decide)
    · rw [e, zi2c v hv8]
  · rcases zst_ch (S := S) (p := r.1) hv with e | ⟨v, hv8, e⟩
    · rw [e]; rfl
    · rw [e] at a
      exact absurd (nI_le (a := 0) (b := v) (by omega) (by omega)) a
end RD

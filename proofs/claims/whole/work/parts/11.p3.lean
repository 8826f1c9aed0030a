/-! the class's run -/
def zP5 (S : zT) (x : Nat) (c o b r : Int32) : zT := va_up (va_up (va_up (va_up (va_up S 1 (upd (S 1) x c)) 3 (upd (S 3) x o)) 2 (upd (S 2) x (c + o))) 5 (upd (S 5) x b)) 6 (upd (S 6) x r)
theorem R_c126 {T S : zT} {x a : Nat} {i2 x5 x6 x8 t0 s : Int32} {Q : zT → Prop} (hx : x < 8) (ha : t0 = 0 ∨ (i2 = nI a ∧ a < 8 ∧ s = S 4 a)) (h : Q (zP5 S x x6 x8 (if x5 = 0 then -9 else i2) (if t0 = 0 then 0 else s))) : wpb_X1_comeThrough_126 T i2 (nI x) Q x5 x6 x8 t0 S := by
  unfold wpb_X1_comeThrough_126
  refine R_put rfl hx (by decide) ?_
  rintro _ rfl
  refine R_put rfl hx (by decide) ?_
  rintro _ rfl
  refine R_put rfl hx (by decide) ?_
  rintro _ rfl
  have tail : ∀ b : Int32, b = (if x5 = 0 then -9 else i2) → wpb_X1_comeThrough_177 T i2 (nI x) Q t0 (nI x) b (va_up (va_up (va_up S 1 (upd (S 1) x x6)) 3 (upd (S 3) x x8)) 2 (upd (S 2) x (x6 + x8))) := by
    rintro _ rfl
    unfold wpb_X1_comeThrough_177
    refine R_put rfl hx (by decide) ?_
    rintro _ rfl
    by_cases c : t0 = 0
    · refine zt c ?_
      unfold wpb_X1_comeThrough_202
      refine R_put rfl hx (by decide) ?_
      rintro _ rfl
      rw [if_pos c] at h
      exact h
    · rcases ha with ha | ⟨e1, e2, e3⟩
      · exact absurd ha c
      · refine zf c (R_at e1 e2 (by decide) ?_)
        unfold wpb_X1_comeThrough_202
        refine R_put rfl hx (by decide) ?_
        rintro _ rfl
        rw [if_neg c, e3] at h
        exact h
  refine ⟨fun c => ?_, fun c => ?_⟩
  · exact tail _ (by rw [if_pos c])
  · exact tail _ (by rw [if_neg c])
theorem R_come0 {T S : zT} {x : Nat} {i2 : Int32} {Q : zT → Prop} (ha : i2 < 0) (hx : x < 8) (hth : S 8 x = sThere T x) (h : Q (zP5 S x (zC0 T x) (sOpn T x) (-9) 0)) : wp_X1_comeThrough T i2 (nI x) S Q := by
  refine zf (znle.mpr ha) ?_
  refine zt ha ?_
  unfold wpb_X1_comeThrough_34 wpb_X1_comeThrough_35
  refine zt rfl (R_at rfl hx (by decide) ?_)
  rw [hth]
  refine zt ha ?_
  unfold wpb_X1_comeThrough_83 wpb_X1_comeThrough_84
  refine zt rfl (R_opn rfl hx ?_)
  refine zt rfl ?_
  unfold wpb_X1_comeThrough_125
  exact R_c126 (a := 0) (s := 0) hx (Or.inl rfl) h
theorem R_c100 {T S : zT} {x a : Nat} {x5 x6 x8 : Int32} {Q : zT → Prop} (hx : x < 8) (ha : a < 8) (h : Q (zP5 S x x6 x8 (if x5 = 0 then -9 else nI a) (if x5 = 0 then 0 else if sYH T x ≤ tv T x 3 then 0 else S 4 a))) : wpb_X1_comeThrough_100 T (nI a) (nI x) Q x5 x6 x8 S := by
  refine ⟨fun c => ?_, fun c => R_yh rfl hx (R_of (k := 3) rfl rfl hx (by decide) ⟨fun c2 => ?_, fun c2 => ?_⟩)⟩
  · unfold wpb_X1_comeThrough_125
    refine R_c126 (a := a) (s := S 4 a) hx (Or.inl rfl) ?_
    rw [if_pos c] at h ⊢
    rw [if_pos c] at h
    exact h
  · unfold wpb_X1_comeThrough_125
    refine R_c126 (a := a) (s := S 4 a) hx (Or.inl rfl) ?_
    rw [if_neg c] at h ⊢
    rw [if_neg c, if_pos c2] at h
    exact h
  · refine R_c126 (a := a) (s := S 4 a) hx (Or.inr ⟨rfl, ha, rfl⟩) ?_
    rw [if_neg c] at h ⊢
    rw [if_neg c, if_neg c2] at h
    exact h
theorem R_c60 {T S : zT} {x a : Nat} {g c x5 : Int32} {Q : zT → Prop} (hx : x < 8) (ha : a < 8) (h : Q (zP5 S x c (if c - g < T 0 0 then 0 else sOpn T x) (if x5 = 0 then -9 else nI a) (if x5 = 0 then 0 else if sYH T x ≤ tv T x 3 then 0 else S 4 a))) : wpb_X1_comeThrough_60 T (nI a) (nI x) Q g x5 c S := by
  refine zf (nI_pos (by omega)) (R_door (k := 0) rfl (by decide) ⟨fun c1 => ?_, fun c1 => ?_⟩)
  · unfold wpb_X1_comeThrough_83 wpb_X1_comeThrough_84
    refine zt rfl (R_opn rfl hx (R_c100 hx ha ?_))
    rw [if_neg (znl.mpr c1)] at h
    exact h
  · unfold wpb_X1_comeThrough_84
    refine zf (by decide) (R_c100 hx ha ?_)
    rw [if_pos (znle.mp c1)] at h
    exact h
theorem R_come1 {T S : zT} {x a : Nat} {Q : zT → Prop} (hx : x < 8) (ha : a < 8) (hth : S 8 x = sThere T x) (h : Q (zP5 S x (zC T (S 2 a + S 4 a) (S 4 a) x) (zO T (S 2 a + S 4 a) (S 4 a) x) (zB5 (S 4 a) a) (zR6 T (S 4 a) x))) : wp_X1_comeThrough T (nI a) (nI x) S Q := by
  unfold zO zB5 zR6 zC at h
  refine zt (nI_pos' (by omega)) (R_at rfl ha (by decide) (R_at rfl ha (by decide) ?_))
  refine zf (nI_pos (by omega)) (R_at rfl ha (by decide) ⟨fun c => ?_, fun c => ?_⟩)
  · have hn : ¬ 0 < S 4 a := znl.mpr c
    unfold wpb_X1_comeThrough_34 wpb_X1_comeThrough_35
    refine zt rfl (R_at rfl hx (by decide) (R_c60 hx ha ?_))
    rw [hth]
    simp only [if_neg hn] at h
    simp only [if_true]
    exact h
  · have hn : 0 < S 4 a := znle.mp c
    unfold wpb_X1_comeThrough_35
    refine zf (by decide) (R_c60 hx ha ?_)
    simp only [if_pos hn] at h
    simp only [show ¬ ((1 : Int32) = 0) by decide, if_false]
    exact h
/-- what is known of the j-th who is through -/
def zRow (T : zT) (n : Nat) (P0 : Nat → Bool) (S : zT) (j : Nat) : Prop := S 0 j = nI (q1 T n P0 j) ∧ S 1 (q1 T n P0 j) = qC T n P0 j ∧ S 2 (q1 T n P0 j) = qC T n P0 j + qO T n P0 j ∧ S 3 (q1 T n P0 j) = qO T n P0 j ∧ S 4 (q1 T n P0 j) = qS T n P0 j ∧ S 5 (q1 T n P0 j) = qB T n P0 j ∧ S 6 (q1 T n P0 j) = qR T n P0 j ∧ S 7 (q1 T n P0 j) = qL T n P0 j
abbrev P00 : Nat → Bool := fun _ => false
/-- the class's rows behind a run -/
def zG (T : zT) (n : Nat) (S : zT) : Prop := S 10 0 = nI n ∧ ∀ j : Nat, j < n → zRow T n P00 S j
def zGI (T : zT) (n i : Nat) (S : zT) : Prop := S 10 0 = nI n ∧ (∀ w : Nat, w < n → S 8 w = sThere T w) ∧ (∀ w : Nat, w < n → S 9 w = if qP T n P00 i w then 1 else 0) ∧ ∀ j : Nat, j < i → zRow T n P00 S j
def zAh (T : zT) (n : Nat) : Nat → Int32
  | 0 => -9
  | i + 1 => nI (q1 T n P00 i)
theorem zGI_step {T S : zT} {n i : Nat} (h8 : n ≤ 8) (hi : i < n) (hG : zGI T n i S) {c o b r sc : Int32} (hc : c = qC T n P00 i) (ho : o = qO T n P00 i) (hb : b = qB T n P00 i) (hr : r = qR T n P00 i) (hs : sc = qS T n P00 i) {S1 S2 : zT}
    (e1 : S1 = va_up (va_up (zP5 S (q1 T n P00 i) c o b r) 0 (upd (S 0) i (nI (q1 T n P00 i)))) 9 (upd (S 9) (q1 T n P00 i) 1))
    (e2 : S2 = va_up (va_up S1 4 (upd (S 4) (q1 T n P00 i) sc)) 7 (upd (S 7) (q1 T n P00 i) (qL T n P00 i))) : zGI T n (i + 1) S2 := by
  obtain ⟨g10, g8, g9, gr⟩ := hG
  have hm : zcn P00 n = n := zcn_f n
  subst e1 e2
  refine ⟨g10, g8, fun w hw => ?_, fun j hj => ?_⟩
  · show upd (S 9) (q1 T n P00 i) 1 w = _
    rw [qP_S]
    by_cases c : w = q1 T n P00 i
    · subst c
      rw [pk_us]
      simp
    · rw [pk_un c, g9 w hw]
      simp [c]
  · rcases Nat.lt_or_ge j i with q | q
    · have hne : q1 T n P00 j ≠ q1 T n P00 i := q1_ne q (by omega)
      obtain ⟨h0, h1, h2, h3, h4, h5, h6, h7⟩ := gr j q
      refine ⟨?_, ?_, ?_, ?_, ?_, ?_, ?_, ?_⟩
      · show upd (S 0) i _ j = _
        rw [pk_un (by omega), h0]
      · show upd (S 1) _ _ _ = _
        rw [pk_un hne, h1]
      · show upd (S 2) _ _ _ = _
        rw [pk_un hne, h2]
      · show upd (S 3) _ _ _ = _
        rw [pk_un hne, h3]
      · show upd (S 4) _ _ _ = _
        rw [pk_un hne, h4]
      · show upd (S 5) _ _ _ = _
        rw [pk_un hne, h5]
      · show upd (S 6) _ _ _ = _
        rw [pk_un hne, h6]
      · show upd (S 7) _ _ _ = _
        rw [pk_un hne, h7]
    · have : j = i := by omega
      subst this
      subst hc ho hb hr hs
      refine ⟨pk_us, pk_us, pk_us, pk_us, pk_us, pk_us, pk_us, pk_us⟩
theorem R_come {T S : zT} {n i : Nat} {Q : zT → Prop} (h8 : n ≤ 8) (hin : i < n) (hG : zGI T n i S) (h : Q (zP5 S (q1 T n P00 i) (qC T n P00 i) (qO T n P00 i) (qB T n P00 i) (qR T n P00 i))) : wp_X1_comeThrough T (zAh T n i) (nI (q1 T n P00 i)) S Q := by
  have hm : zcn P00 n = n := zcn_f n
  have hlt : q1 T n P00 i < n := q1_lt (by omega)
  cases i with
  | zero => exact R_come0 (show (-9 : Int32) < 0 by decide) (by omega) (hG.2.1 _ hlt) h
  | succ j =>
    have hp := hG.2.2.2 j (Nat.lt_succ_self j)
    have hjl : q1 T n P00 j < n := q1_lt (by omega)
    refine R_come1 (a := q1 T n P00 j) (by omega) (by omega) (hG.2.1 _ hlt) ?_
    rw [hp.2.2.2.2.1, hp.2.2.1]
    exact h
theorem R_run {T G : zT} {n : Nat} {Q : zT → Prop} (hT : T 2 0 = nI n) (h8 : n ≤ 8) (h : ∀ G' : zT, zG T n G' → Q G') : wp_X1_run T G Q := by
  have hm : zcn P00 n = n := zcn_f n
  -- the second loop
  have L57 : ∀ (k i : Nat) (S : zT), i + k = n → zGI T n i S → wpl_X1_run_57 T Q (k + 1) (zAh T n i) (zE (zF (sThere T) (qP T n P00 i) n)) (nI i) S := by
    intro k
    induction k with
    | zero =>
      intro i S hi hG
      have : i = n := by omega
      subst this
      refine zt (by rw [hG.1]; exact Int32.le_refl _) (h S ⟨hG.1, hG.2.2.2⟩)
    | succ k ih =>
      intro i S hi hG
      have hin : i < n := by omega
      have hone := q1_some (T := T) (n := n) (P0 := P00) (i := i) (by omega)
      have hlt : q1 T n P00 i < n := q1_lt (by omega)
      rw [hone]
      show wpl_X1_run_57 T Q (k + 1 + 1) (zAh T n i) (nI (q1 T n P00 i)) (nI i) S
      refine zf (by rw [hG.1]; exact nI_ge hin (by omega)) ?_
      refine R_come h8 hin hG ?_
      refine R_put rfl (show i < 8 by omega) (by decide) ?_
      rintro _ rfl
      refine R_put rfl (show q1 T n P00 i < 8 by omega) (by decide) ?_
      intro S1 e1
      have f10 : S1 10 0 = nI n := by rw [e1]; exact hG.1
      have f8 : ∀ w : Nat, w < n → S1 8 w = sThere T w := by rw [e1]; exact hG.2.1
      have f9 : ∀ w : Nat, w < n → S1 9 w = if qP T n P00 (i + 1) w then 1 else 0 := by
        intro w hw
        rw [e1]
        show upd (S 9) (q1 T n P00 i) 1 w = _
        rw [qP_S]
        by_cases c : w = q1 T n P00 i
        · subst c
          rw [pk_us]
          simp
        · rw [pk_un c, hG.2.2.1 w hw]
          simp [c]
      have tail : ∀ sc : Int32, sc = qS T n P00 i → wpb_X1_run_119 T Q (fun x2 x3 x4 S => wpl_X1_run_57 T Q (k + 1) x2 x3 x4 S) (zE (zF (sThere T) (qP T n P00 (i + 1)) n)) (nI i) (nI (q1 T n P00 i)) sc S1 := by
        intro sc hs
        unfold wpb_X1_run_119
        refine R_put rfl (show q1 T n P00 i < 8 by omega) (by decide) ?_
        rintro _ rfl
        refine R_of (k := 6) rfl rfl (show q1 T n P00 i < 8 by omega) (by decide) (R_at rfl (show q1 T n P00 i < 8 by omega) (by decide) (R_at rfl (show q1 T n P00 i < 8 by omega) (by decide) (R_put rfl (show q1 T n P00 i < 8 by omega) (by decide) ?_)))
        rintro _ rfl
        rintro _ rfl
        rw [show nI i + (1 : Int32) = nI (i + 1) from nI_1 i]
        refine ih (i + 1) _ (by omega) (zGI_step h8 hin hG rfl rfl rfl rfl hs e1 ?_)
        have a3 : S1 3 (q1 T n P00 i) = qO T n P00 i := by rw [e1]; exact pk_us
        have a6 : S1 6 (q1 T n P00 i) = qR T n P00 i := by rw [e1]; exact pk_us
        have a4 : S1 4 = S 4 := by rw [e1]; rfl
        have a7 : S1 7 = S 7 := by rw [e1]; rfl
        show va_up (va_up S1 4 (upd (S1 4) (q1 T n P00 i) sc)) 7 (upd (S1 7) (q1 T n P00 i) (tv T (q1 T n P00 i) 6 * (S1 3 (q1 T n P00 i) + sc) + S1 6 (q1 T n P00 i))) = _
        rw [a3, a6, a4, a7, hs]
        rfl
      refine R_next f10 h8 f8 f9 ?_
      rcases Nat.lt_or_ge (i + 1) n with q | q
      · have hx := q1_some (T := T) (n := n) (P0 := P00) (i := i + 1) (by omega)
        have hxl : q1 T n P00 (i + 1) < n := q1_lt (by omega)
        have tl := tail
        rw [hx] at tl ⊢
        refine zt (nI_pos' (show q1 T n P00 (i + 1) < 2 ^ 31 by omega)) ?_
        refine R_sec rfl rfl (show q1 T n P00 i < 8 by omega) (show q1 T n P00 (i + 1) < 8 by omega) (tl _ ?_)
        have a2 : S1 2 (q1 T n P00 i) = qC T n P00 i + qO T n P00 i := by rw [e1]; exact pk_us
        have a5 : S1 5 (q1 T n P00 i) = qB T n P00 i := by rw [e1]; exact pk_us
        rw [a2, a5, qS_eq (by omega)]
      · have hx := q1_none (T := T) (n := n) (P0 := P00) (i := i + 1) (by omega)
        have tl := tail
        rw [hx] at tl ⊢
        exact zf (by decide) (tl 0 (qS_last (by omega)).symm)
  -- the first loop
  have L10 : ∀ (k i : Nat) (S : zT), i + k = n → S 10 0 = nI n → (∀ w : Nat, w < i → S 8 w = sThere T w ∧ S 9 w = 0) → wpl_X1_run_10 T Q (k + 1) (nI i) S := by
    intro k
    induction k with
    | zero =>
      intro i S hi h10 hw
      have : i = n := by omega
      subst this
      refine zt (by rw [h10]; exact Int32.le_refl _) ?_
      unfold wpb_X1_run_46
      have hG : zGI T i 0 S := ⟨h10, fun w q => (hw w q).1, fun w q => (hw w q).2, fun j q => absurd q (Nat.not_lt_zero j)⟩
      refine R_next (P := P00) h10 h8 (fun w q => (hw w q).1) (fun w q => by rw [(hw w q).2]; rfl) ?_
      exact ⟨i + 1, L57 i 0 S (by omega) hG⟩
    | succ k ih =>
      intro i S hi h10 hw
      have hin : i < n := by omega
      refine zf (by rw [h10]; exact nI_ge hin (by omega)) (R_there rfl (by omega) (R_put rfl (show i < 8 by omega) (by decide) ?_))
      rintro _ rfl
      refine R_put rfl (show i < 8 by omega) (by decide) ?_
      rintro _ rfl
      rintro _ rfl
      rw [show nI i + (1 : Int32) = nI (i + 1) from nI_1 i]
      refine ih (i + 1) _ (by omega) h10 (fun w q => ?_)
      show upd (S 8) i (sThere T i) w = _ ∧ upd (S 9) i 0 w = _
      by_cases c : w = i
      · subst c
        exact ⟨pk_us, pk_us⟩
      · rw [pk_un c, pk_un c]
        exact hw w (by omega)
  intro S5 hS5
  refine ⟨n + 1, L10 n 0 S5 (by omega) ?_ (fun w q => absurd q (Nat.not_lt_zero w))⟩
  rw [hS5]
  exact hT

/-! the reference's going -/
def zclr (L w : Nat) : Nat := if L.testBit w then L - 2 ^ w else L
theorem zm1 : ∀ L, L < 256 → ∀ w, w < 8 → (((nI L) >>> ((nI w) &&& 31)) &&& 1 = 1 ↔ L.testBit w = true) := by decide +kernel
theorem zm2 : ∀ L, L < 256 → ∀ w, w < 8 → (nI L &&& (((1 : Int32) <<< ((nI w) &&& 31)) ^^^ (-1 : Int32)) = nI (zclr L w) ∧ zclr L w < 256) := by decide +kernel
theorem zm3 : ∀ L, L < 256 → ∀ w, w < 8 → ∀ v, v < 8 → (zclr L w).testBit v = (L.testBit v && !(v == w)) := by decide +kernel
theorem zm4 : ∀ L, L < 256 → (∀ v, v < 8 → L.testBit v = false) → L = 0 := by decide +kernel
theorem zm5 : ∀ n, n < 9 → (((1 : Int32) <<< ((nI n) &&& 31)) - 1 = nI (2 ^ n - 1) ∧ 2 ^ n - 1 < 256 ∧ ∀ v, v < 8 → (2 ^ n - 1).testBit v = decide (v < n)) := by decide +kernel
/-- the mask of those who have not passed -/
def zMk (L n : Nat) (P : Nat → Bool) : Prop := L < 256 ∧ ∀ v : Nat, v < 8 → L.testBit v = (decide (v < n) && !P v)
theorem zMk_clr {L n w : Nat} {P : Nat → Bool} (h : zMk L n P) (hw : w < 8) : zMk (zclr L w) n (fun v => P v || v == w) := by
  refine ⟨(zm2 L h.1 w hw).2, fun v hv => ?_⟩
  rw [zm3 L h.1 w hw v hv, h.2 v hv]
  show _ = (decide (v < n) && !(P v || v == w))
  cases decide (v < n) <;> cases P v <;> cases (v == w) <;> rfl
theorem zMk_0 {L n : Nat} {P : Nat → Bool} (h : zMk L n P) (h8 : n ≤ 8) : L = 0 ↔ ∀ w : Nat, w < n → P w = true := by
  refine ⟨fun e w hw => ?_, fun a => zm4 L h.1 (fun v hv => ?_)⟩
  · have := h.2 w (by omega)
    rw [e] at this
    simpa [hw] using this
  · rw [h.2 v hv]
    by_cases c : v < n
    · rw [a v c]; simp
    · simp [c]
theorem M_first {T M : zT} {n L : Nat} {P : Nat → Bool} {Q : Int32 → Prop} (R : TR T M) (hV : zV T n) (hM : zMk L n P) (h : Q (zE (zF (sThere T) P n))) : wp_X5_firstOf M (nI L) Q := by
  have h8 := hV.2.1
  have h13 : M 13 0 = nI n := by rw [R.2.2]; exact hV.1
  have key : ∀ k i : Nat, i + k = n → wpl_X5_firstOf_5 M (nI L) Q (k + 1) (zE (zF (sThere T) P i)) (nI i) := by
    intro k
    induction k with
    | zero =>
      intro i hi
      have : i = n := by omega
      subst this
      exact zt (by rw [h13]; exact Int32.le_refl _) h
    | succ k ih =>
      intro i hi
      have hin : i < n := by omega
      have hS := zF_S (sThere T) P i
      have ih' := ih (i + 1) (by omega)
      have hb := zm1 L hM.1 i (by omega)
      rw [hM.2 i (by omega)] at hb
      have ni : nI i + (1 : Int32) = nI (i + 1) := nI_1 i
      have keep : zF (sThere T) P (i + 1) = zF (sThere T) P i → wpb_X5_firstOf_41 M (nI L) Q (fun x2 x3 => wpl_X5_firstOf_5 M (nI L) Q (k + 1) x2 x3) (zE (zF (sThere T) P i)) (nI i) := by
        intro e
        rintro _ rfl
        rw [ni, ← e]
        exact ih'
      have take : zF (sThere T) P (i + 1) = some i → wpb_X5_firstOf_39 M (nI L) Q (fun x2 x3 => wpl_X5_firstOf_5 M (nI L) Q (k + 1) x2 x3) (nI i) := by
        intro e
        unfold wpb_X5_firstOf_39
        rintro _ rfl
        rw [ni]
        rw [e] at ih'
        exact ih'
      refine zf (by rw [h13]; exact nI_ge hin (by omega)) ⟨fun c => ?_, fun c => ?_⟩
      · have hP : P i = false := by
          have := hb.mp c
          simpa [hin] using this
        cases e : zF (sThere T) P i with
        | none =>
          rw [e] at hS
          exact zt (by decide) (take (by rw [hS]; simp [hP]))
        | some b =>
          rw [e] at hS
          have hbn := (zF_some e).1
          refine zf (nI_pos (show b < 2 ^ 31 by omega)) (M_there R hV hin (M_there R hV (show b < n by omega) ⟨fun c2 => ?_, fun c2 => ?_⟩))
          · have := keep (by rw [hS, e]; simp [hP, znl.mpr c2])
            rw [e] at this
            exact this
          · exact take (by rw [hS]; simp [hP, znle.mp c2])
      · have hP : P i = true := by
          cases q : P i with
          | true => rfl
          | false => exact absurd (hb.mpr (by simp [hin, q])) c
        exact keep (by
          rw [hS]
          cases e : zF (sThere T) P i with
          | none => simp [hP]
          | some b => simp [hP])
  exact ⟨n + 1, key n 0 (by omega)⟩
def zM5 (S : zT) (x : Nat) (c o p b r : Int32) : zT := va_up (va_up (va_up (va_up (va_up S 27 (upd (S 27) x c)) 29 (upd (S 29) x o)) 28 (upd (S 28) x p)) 31 (upd (S 31) x b)) 32 (upd (S 32) x r)
theorem M_opens {T M : zT} {n w i g : Nat} {Q : zT → Prop} (R : TR T M) (hV : zV T n) (hw : w < n) (h36 : M 36 0 = nI i) (hi : i < 1000) (h35 : M 35 0 = nI g) (hg : g < 10000)
    (h : Q (zM5 M w (if sThere T w < nI g then nI g else sThere T w) (if 0 < i ∧ (if sThere T w < nI g then nI g else sThere T w) - nI g < T 0 0 then 0 else sOpn T w) ((if sThere T w < nI g then nI g else sThere T w) + (if 0 < i ∧ (if sThere T w < nI g then nI g else sThere T w) - nI g < T 0 0 then 0 else sOpn T w)) (-9) 0)) : wp_X5_opensFor (nI w) M Q := by
  have h8 := hV.2.1
  have hw8 : w < 8 := by omega
  have cw : (nI w).toNatClampNeg = w := zcl (by omega)
  obtain ⟨t, et, ht⟩ := V_there hV hw
  refine M_there R hV hw ?_
  rw [h35]
  have hd := hV.2.2.1
  obtain ⟨rd, r, -⟩ := R
  obtain ⟨r0, r1, r2, r3, r4, r5, r6⟩ := r w hw8
  have tail : ∀ c : Int32, c = (if sThere T w < nI g then nI g else sThere T w) → wpb_X5_opensFor_27 (nI w) Q (nI w) c M := by
    intro c hc
    rw [← hc] at h
    refine ⟨zv8 hw8, ?_⟩
    rintro _ rfl
    rw [cw]
    have t112 : ∀ o : Int32, o = (if 0 < i ∧ c - nI g < T 0 0 then 0 else sOpn T w) → wpb_X5_opensFor_112 (nI w) Q (nI w) o (va_up M 27 (upd (M 27) w c)) := by
      intro o ho
      rw [← ho] at h
      refine ⟨zv8 hw8, ?_⟩
      rintro _ rfl
      refine ⟨zv8 hw8, zv8 hw8, zv8 hw8, ?_⟩
      rintro _ rfl
      refine ⟨zv8 hw8, ?_⟩
      rintro _ rfl
      refine ⟨zv8 hw8, ?_⟩
      rintro _ rfl
      rw [cw]
      have e1 : (va_up (va_up M 27 (upd (M 27) w c)) 29 (upd (va_up M 27 (upd (M 27) w c) 29) w o)) 27 w = c := pk_us
      have e2 : (va_up (va_up M 27 (upd (M 27) w c)) 29 (upd (va_up M 27 (upd (M 27) w c) 29) w o)) 29 w = o := pk_us
      rw [e1, e2]
      exact h
    have t60 : ∀ st : Int32, (st = 0 → ¬ (0 < i ∧ c - nI g < T 0 0)) → (¬ st = 0 → (0 < i ∧ c - nI g < T 0 0)) → wpb_X5_opensFor_60 (nI w) Q st (va_up M 27 (upd (M 27) w c)) := by
      intro st h1 h2
      have t89 : ∀ ca : Int32, ca = (if tv T w 0 = 4 then 1 else 0) → wpb_X5_opensFor_89 (nI w) Q st (T 0 1 + tv T w 4) ca (va_up M 27 (upd (M 27) w c)) := by
        intro ca hca
        rintro _ rfl
        have eop : T 0 1 + tv T w 4 - ca = sOp0 T w := by rw [hca]; rfl
        rw [eop]
        refine ⟨fun c1 => ⟨fun c2 => ?_, fun c2 => ?_⟩, fun c1 => ?_⟩
        · refine t112 _ ?_
          rw [if_neg (h1 c1)]
          unfold sOpn
          by_cases c3 : 0 < sOp0 T w
          · rw [if_pos c3]
          · rw [if_neg c3]
            rw [zlt] at c3
            rw [zle] at c2
            rw [zeq]
            omega
        · refine t112 _ ?_
          rw [if_neg (h1 c1)]
          unfold sOpn
          rw [if_neg]
          intro c3
          apply c2
          rw [zlt] at c3
          rw [zle]
          omega
        · refine t112 _ ?_
          rw [if_pos (h2 c1)]
      refine ⟨vp_in_nI (n := 1) (by decide) (by decide), zv8 hw8, zv8 hw8, ?_⟩
      have a1 : (va_up M 27 (upd (M 27) w c)) 8 ((1 : Int32)).toNatClampNeg = T 0 1 := rd 1 (by decide)
      have a2 : (va_up M 27 (upd (M 27) w c)) 5 w = tv T w 4 := r4
      have a3 : (va_up M 27 (upd (M 27) w c)) 1 w = tv T w 0 := r0
      rw [cw, a1, a2, a3]
      exact ⟨fun q => t89 1 (by rw [if_pos q]), fun q => t89 0 (by rw [if_neg q])⟩
    have a36 : (va_up M 27 (upd (M 27) w c)) 36 0 = nI i := h36
    have a35 : (va_up M 27 (upd (M 27) w c)) 35 0 = nI g := h35
    have a27 : (va_up M 27 (upd (M 27) w c)) 27 w = c := pk_us
    have a8 : (va_up M 27 (upd (M 27) w c)) 8 ((0 : Int32)).toNatClampNeg = T 0 0 := rd 0 (by decide)
    rw [a36, a35, a27, a8]
    have t59 : ¬ (0 < i ∧ c - nI g < T 0 0) → wpb_X5_opensFor_59 (nI w) Q (va_up M 27 (upd (M 27) w c)) := fun q => t60 0 (fun _ => q) (fun z => absurd rfl z)
    refine ⟨fun q => t59 (fun z => ?_), fun q => ⟨zv8 hw8, vp_in_nI (n := 0) (by decide) (by decide), fun q2 => t59 (fun z => absurd z.2 (znl.mpr q2)), fun q2 => t60 1 (fun z => by cases z) (fun _ => ⟨?_, znle.mp q2⟩)⟩⟩
    · have := (nI_leI (b := 0) (by omega) (by omega)).mp q
      omega
    · rcases Nat.eq_zero_or_pos i with z | z
      · rw [z] at q
        exact absurd (Int32.le_refl _) q
      · exact z
  refine ⟨fun q => tail _ ?_, fun q => tail _ ?_⟩
  · by_cases c : sThere T w < nI g
    · rw [if_pos c]
    · rw [if_neg c]
      rw [zlt] at c
      rw [zle] at q
      rw [zeq]
      omega
  · rw [if_neg]
    intro c
    apply q
    rw [zlt] at c
    rw [zle]
    omega
def zM6 (S : zT) (w x : Nat) (s : Int32) (r : Int32) : zT := va_up (va_up (va_up (va_up (va_up (va_up S 30 (upd (S 30) w s)) 28 (upd (S 28) x (S 28 w + s))) 27 (upd (S 27) x (S 28 w + s))) 29 (upd (S 29) x 0)) 31 (upd (S 31) x (nI w))) 32 (upd (S 32) x r)
theorem M_held {T M : zT} {n w x : Nat} {s : Int32} {Q : zT → Prop} (R : TR T M) (hV : zV T n) (hw : w < n) (hx : x < n) (h : Q (zM6 M w x s (if sYH T x ≤ tv T x 3 then 0 else s))) : wp_X5_isHeldFor (nI x) (nI w) s M Q := by
  have h8 := hV.2.1
  have hw8 : w < 8 := by omega
  have hx8 : x < 8 := by omega
  have cw : (nI w).toNatClampNeg = w := zcl (by omega)
  have cx : (nI x).toNatClampNeg = x := zcl (by omega)
  refine ⟨zv8 hw8, ?_⟩
  rintro _ rfl
  refine ⟨zv8 hw8, zv8 hx8, ?_⟩
  rintro _ rfl
  refine ⟨zv8 hx8, zv8 hx8, ?_⟩
  rintro _ rfl
  refine ⟨zv8 hx8, ?_⟩
  rintro _ rfl
  refine ⟨zv8 hx8, ?_⟩
  intro S1 e1
  rw [cw, cx] at e1
  have e1' : S1 = va_up (va_up (va_up (va_up (va_up M 30 (upd (M 30) w s)) 28 (upd (M 28) x (M 28 w + s))) 27 (upd (M 27) x (M 28 w + s))) 29 (upd (M 29) x 0)) 31 (upd (M 31) x (nI w)) := by
    rw [e1]
    have e2 : (va_up (va_up M 30 (upd (M 30) w s)) 28 (upd (va_up M 30 (upd (M 30) w s) 28) x (va_up M 30 (upd (M 30) w s) 28 w + s))) 28 x = M 28 w + s := pk_us
    rw [e2]
    rfl
  have R1 : TR T S1 := by rw [e1']; exact R
  refine M_yh R1 hV hx ⟨zv8 hx8, ?_⟩
  rw [cx, (R1.2.1 x hx8).2.2.2.1]
  have t71 : ∀ r : Int32, r = (if sYH T x ≤ tv T x 3 then 0 else s) → wpb_X5_isHeldFor_71 (nI x) (nI w) s Q (nI x) r S1 := by
    intro r hr
    refine ⟨zv8 hx8, ?_⟩
    rintro _ rfl
    rw [cx, hr, e1']
    exact h
  exact ⟨fun q => t71 0 (by rw [if_pos q]), fun q => t71 s (by rw [if_neg q])⟩

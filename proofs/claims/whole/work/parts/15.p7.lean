/-! the reference's going, whole -/
def mRow (T : zT) (n : Nat) (P0 : Nat → Bool) (S : zT) (j : Nat) : Prop := S 26 j = nI (q1 T n P0 j) ∧ S 27 (q1 T n P0 j) = qC T n P0 j ∧ S 28 (q1 T n P0 j) = qC T n P0 j + qO T n P0 j ∧ S 29 (q1 T n P0 j) = qO T n P0 j ∧ S 30 (q1 T n P0 j) = qS T n P0 j ∧ S 31 (q1 T n P0 j) = qB T n P0 j ∧ S 32 (q1 T n P0 j) = qR T n P0 j
/-- the rows of what is told, the films and the like stay -/
def mKeep (M S : zT) : Prop := ∀ k : Nat, (k < 26 ∨ 37 < k) → S k = M k
/-- the chains: where each begins -/
def zCh (T : zT) (n : Nat) (P0 : Nat → Bool) (S : zT) (k i : Nat) : Prop := ∃ a : Nat → Nat, a 0 = 0 ∧ a k = i ∧ ∀ j : Nat, j < k → a j < a (j + 1) ∧ S 33 j = qC T n P0 (a j) ∧ S 34 j = qC T n P0 (a (j + 1) - 1) + qO T n P0 (a (j + 1) - 1) + T 0 0 ∧ (∀ t : Nat, a j ≤ t → t + 1 < a (j + 1) → 0 < qS T n P0 t) ∧ qS T n P0 (a (j + 1) - 1) = 0
theorem zCh_le {T : zT} {n : Nat} {P0 : Nat → Bool} {S : zT} {k i : Nat} (h : zCh T n P0 S k i) : k ≤ i := by
  obtain ⟨a, h0, hk, hj⟩ := h
  have key : ∀ j : Nat, j ≤ k → j ≤ a j := by
    intro j
    induction j with
    | zero => intro _; exact Nat.zero_le _
    | succ j ih =>
      intro q
      have h1 := ih (by omega)
      have h2 := (hj j (by omega)).1
      omega
  have := key k (Nat.le_refl _)
  omega
theorem zCh_0 {T : zT} {n : Nat} {P0 : Nat → Bool} {S : zT} : zCh T n P0 S 0 0 := ⟨fun _ => 0, rfl, rfl, fun j h => absurd h (Nat.not_lt_zero j)⟩
/-- the reference's rows behind a going -/
def zMG (T : zT) (n : Nat) (P0 : Nat → Bool) (M S : zT) : Prop := mKeep M S ∧ S 36 0 = nI (zcn P0 n) ∧ (∀ j : Nat, j < zcn P0 n → mRow T n P0 S j) ∧ ∃ k : Nat, S 37 0 = nI k ∧ zCh T n P0 S k (zcn P0 n)
theorem TR_keep {T M S : zT} (R : TR T M) (h : mKeep M S) : TR T S := by
  obtain ⟨rd, r, r13⟩ := R
  refine ⟨fun k hk => by rw [h 8 (Or.inl (by decide))]; exact rd k hk, fun w hw => ?_, by rw [h 13 (Or.inl (by decide))]; exact r13⟩
  rw [h 1 (Or.inl (by decide)), h 2 (Or.inl (by decide)), h 3 (Or.inl (by decide)), h 4 (Or.inl (by decide)), h 5 (Or.inl (by decide)), h 6 (Or.inl (by decide)), h 7 (Or.inl (by decide))]
  exact r w hw
/-- the i-th is at the door: what is set of him -/
def mCur (T : zT) (n : Nat) (P0 : Nat → Bool) (S : zT) (i : Nat) : Prop := S 27 (q1 T n P0 i) = qC T n P0 i ∧ S 28 (q1 T n P0 i) = qC T n P0 i + qO T n P0 i ∧ S 29 (q1 T n P0 i) = qO T n P0 i ∧ S 31 (q1 T n P0 i) = qB T n P0 i ∧ S 32 (q1 T n P0 i) = qR T n P0 i
/-- ahead of a chain's head -/
def mOut (T : zT) (n : Nat) (P0 : Nat → Bool) (M : zT) (i : Nat) (S : zT) : Prop := mKeep M S ∧ S 36 0 = nI i ∧ (∀ j : Nat, j < i → mRow T n P0 S j) ∧ (∃ g : Nat, S 35 0 = nI g ∧ g < 10000 ∧ (i = 0 → g = 0) ∧ ∀ j : Nat, j + 1 = i → qC T n P0 j + qO T n P0 j = nI g ∧ qS T n P0 j = 0) ∧ ∃ k : Nat, S 37 0 = nI k ∧ zCh T n P0 S k i
/-- within a chain -/
def mIn (T : zT) (n : Nat) (P0 : Nat → Bool) (M : zT) (i st k : Nat) (S : zT) : Prop := mKeep M S ∧ S 36 0 = nI i ∧ (∀ j : Nat, j < i → mRow T n P0 S j) ∧ mCur T n P0 S i ∧ S 37 0 = nI k ∧ zCh T n P0 S k st ∧ st ≤ i ∧ S 33 k = qC T n P0 st ∧ ∀ t : Nat, st ≤ t → t < i → 0 < qS T n P0 t
theorem zCh_keep {T : zT} {n : Nat} {P0 : Nat → Bool} {S S' : zT} {k i : Nat} (h : zCh T n P0 S k i) (h33 : ∀ j : Nat, j < k → S' 33 j = S 33 j) (h34 : ∀ j : Nat, j < k → S' 34 j = S 34 j) : zCh T n P0 S' k i := by
  obtain ⟨a, h0, hk, hj⟩ := h
  refine ⟨a, h0, hk, fun j q => ?_⟩
  rw [h33 j q, h34 j q]
  exact hj j q
theorem zCh_push {T : zT} {n : Nat} {P0 : Nat → Bool} {S3 S5 : zT} {k st i : Nat} (hch : zCh T n P0 S3 k st) (h33 : ∀ j : Nat, j < k → S5 33 j = S3 33 j) (h34 : ∀ j : Nat, j < k → S5 34 j = S3 34 j) (hst : st ≤ i) (e33 : S5 33 k = qC T n P0 st) (e34 : S5 34 k = qC T n P0 i + qO T n P0 i + T 0 0) (hpos : ∀ t : Nat, st ≤ t → t < i → 0 < qS T n P0 t) (h0 : qS T n P0 i = 0) : zCh T n P0 S5 (k + 1) (i + 1) := by
  obtain ⟨a, a0, ak, aj⟩ := hch
  obtain ⟨b, hb⟩ : ∃ b : Nat → Nat, b = fun j => if j = k + 1 then i + 1 else a j := ⟨_, rfl⟩
  have b1 : ∀ j : Nat, j ≤ k → b j = a j := fun j hj => by rw [hb]; exact if_neg (by omega)
  have b2 : b (k + 1) = i + 1 := by rw [hb]; exact if_pos rfl
  refine ⟨b, by rw [b1 0 (Nat.zero_le _)]; exact a0, b2, fun j hj => ?_⟩
  rcases Nat.lt_or_ge j k with q | q
  · rw [b1 j (by omega), b1 (j + 1) (by omega), h33 j q, h34 j q]
    exact aj j q
  · have : j = k := by omega
    subst this
    rw [b1 j (Nat.le_refl _), b2, ak]
    exact ⟨by omega, e33, e34, fun t t1 t2 => hpos t t1 (by omega), h0⟩
theorem mRow_keep {T : zT} {n : Nat} {P0 : Nat → Bool} {S S' : zT} {j : Nat} (h : mRow T n P0 S j) (h26 : S' 26 j = S 26 j) (hk : ∀ k : Nat, 27 ≤ k → k ≤ 32 → S' k (q1 T n P0 j) = S k (q1 T n P0 j)) : mRow T n P0 S' j := by
  unfold mRow
  rw [h26, hk 27 (by decide) (by decide), hk 28 (by decide) (by decide), hk 29 (by decide) (by decide), hk 30 (by decide) (by decide), hk 31 (by decide) (by decide), hk 32 (by decide) (by decide)]
  exact h
theorem zM5_at {S : zT} {x : Nat} {c o p b r : Int32} {y : Nat} (h : y ≠ x) : ∀ k : Nat, zM5 S x c o p b r k y = S k y := by
  intro k
  unfold zM5 va_up
  by_cases h1 : k = 32
  · subst h1; exact pk_un h
  · by_cases h2 : k = 31
    · subst h2; exact pk_un h
    · by_cases h3 : k = 28
      · subst h3; exact pk_un h
      · by_cases h4 : k = 29
        · subst h4; exact pk_un h
        · by_cases h5 : k = 27
          · subst h5; exact pk_un h
          · simp only [h1, h2, h3, h4, h5, if_false]
theorem zM6_at {S : zT} {w x : Nat} {s r : Int32} {y : Nat} (h : y ≠ x) : ∀ k : Nat, (k = 30 → y ≠ w) → zM6 S w x s r k y = S k y := by
  intro k hk
  unfold zM6 va_up
  by_cases h1 : k = 32
  · subst h1; exact pk_un h
  · by_cases h2 : k = 31
    · subst h2; exact pk_un h
    · by_cases h3 : k = 29
      · subst h3; exact pk_un h
      · by_cases h4 : k = 27
        · subst h4; exact pk_un h
        · by_cases h5 : k = 28
          · subst h5; exact pk_un h
          · by_cases h6 : k = 30
            · subst h6; exact pk_un (hk rfl)
            · simp only [h1, h2, h3, h4, h5, h6, if_false]
theorem M_goes {T M : zT} {n L : Nat} {P0 : Nat → Bool} {Q : zT → Prop} (R : TR T M) (hV : zV T n) (hL : zMk L n P0) (h : ∀ S : zT, zMG T n P0 M S → Q S) : wp_X5_goes (nI L) M Q := by
  have h8 := hV.2.1
  have hcn : zcn P0 n ≤ n := zcn_le P0 n
  -- within a chain
  have L50 : ∀ (K17 : Int32 → zT → Prop) (f i st k Lm : Nat) (S : zT), i + f = zcn P0 n → 0 < f → mIn T n P0 M i st k S → zMk Lm n (qP T n P0 i) →
      (∀ (i' L' : Nat) (S' : zT), i < i' → i' ≤ zcn P0 n → mOut T n P0 M i' S' → zMk L' n (qP T n P0 i') → K17 (nI L') S') →
      ∀ s4 : Int32, 0 < s4 → wpl_X5_goes_50 (nI L) Q K17 (f + 1) (nI Lm) (nI (q1 T n P0 i)) s4 S := by
    intro K17 f
    induction f with
    | zero => intro i st k Lm S _ h0; exact absurd h0 (Nat.lt_irrefl 0)
    | succ f ih =>
      intro i st k Lm S hi _ hI hm hK s4 hs4
      have hin : i < zcn P0 n := by omega
      have hlt : q1 T n P0 i < n := q1_lt hin
      have hl8 : q1 T n P0 i < 8 := by omega
      have cx : (nI (q1 T n P0 i)).toNatClampNeg = q1 T n P0 i := zcl (by omega)
      obtain ⟨hk, h36, hr, hc, h37, hch, hst, h33, hpos⟩ := hI
      refine zf (znle.mpr hs4) ⟨zv8 hl8, ?_⟩
      rintro _ rfl
      have g36 : ∀ f30, (va_up S 30 f30) 36 0 = nI i := fun _ => h36
      rw [g36, cx, zcl (show i < 1000 by omega)]
      refine ⟨zv8 (by omega), ?_⟩
      rintro _ rfl
      intro S3 e3
      have e3' : S3 = va_up (va_up (va_up S 30 (upd (S 30) (q1 T n P0 i) 0)) 26 (upd (S 26) i (nI (q1 T n P0 i)))) 36 (fun _ => nI (i + 1)) := by
        rw [e3]
        have : (va_up (va_up S 30 (upd (S 30) (q1 T n P0 i) 0)) 26 (upd (va_up S 30 (upd (S 30) (q1 T n P0 i) 0) 26) i (nI (q1 T n P0 i)))) 36 0 + (1 : Int32) = nI (i + 1) := by
          show S 36 0 + 1 = _
          rw [h36, nI_1]
        rw [this]
        rfl
      have k3 : mKeep M S3 := by
        intro j hj
        rw [← hk j hj, e3']
        unfold va_up
        rw [if_neg (by omega), if_neg (by omega), if_neg (by omega)]
      have R3 := TR_keep R k3
      rintro _ rfl
      rw [(zm2 Lm hm.1 _ hl8).1]
      have hm' : zMk (zclr Lm (q1 T n P0 i)) n (qP T n P0 (i + 1)) := by rw [qP_S]; exact zMk_clr hm hl8
      -- behind the seconds
      obtain ⟨c, o, s, hB⟩ := V_q (P0 := P0) hV i hin
      obtain ⟨ec, hc1, eo, ho1, es, hs1⟩ := hB
      have row3 : ∀ j : Nat, j < i → mRow T n P0 S3 j := by
        intro j hj
        have hne : q1 T n P0 j ≠ q1 T n P0 i := q1_ne hj hin
        refine mRow_keep (hr j hj) ?_ ?_
        · rw [e3']
          exact pk_un (by omega)
        · intro k2 q1' q2'
          rw [e3']
          unfold va_up
          rw [if_neg (by omega), if_neg (by omega)]
          by_cases z : k2 = 30
          · rw [if_pos z, z]; exact pk_un hne
          · rw [if_neg z]
      have cur3 : mCur T n P0 S3 i := by rw [e3']; exact hc
      have h263 : S3 26 i = nI (q1 T n P0 i) := by rw [e3']; exact pk_us
      have h303 : S3 30 (q1 T n P0 i) = 0 := by rw [e3']; exact pk_us
      have h363 : S3 36 0 = nI (i + 1) := by rw [e3']; rfl
      have h373 : S3 37 0 = nI k := by rw [e3']; exact h37
      have h333 : S3 33 = S 33 := by rw [e3']; rfl
      have h343 : S3 34 = S 34 := by rw [e3']; rfl
      have hch3 : zCh T n P0 S3 k st := zCh_keep hch (fun j _ => by rw [h333]) (fun j _ => by rw [h343])
      have kle : k ≤ st := zCh_le hch
      -- the chain's end
      have fin : qS T n P0 i = 0 → ∀ f' : Nat, wpl_X5_goes_50 (nI L) Q K17 (f' + 1) (nI (zclr Lm (q1 T n P0 i))) (nI (q1 T n P0 i)) 0 S3 := by
        intro h0 f'
        refine zt (Int32.le_refl _) ?_
        refine ⟨zv8 hl8, ?_⟩
        rintro _ rfl
        refine ⟨vp_in_nI (n := 0) (by decide) (by decide), ?_⟩
        rw [cx]
        have g37 : (va_up S3 35 (fun _ => S3 28 (q1 T n P0 i))) 37 0 = nI k := h373
        rw [g37]
        refine ⟨zv8 (by omega), ?_⟩
        rintro _ rfl
        intro S5 e5
        rw [zcl (show k < 1000 by omega)] at e5
        have e5' : S5 = va_up (va_up (va_up S3 35 (fun _ => S3 28 (q1 T n P0 i))) 34 (upd (S3 34) k (qC T n P0 i + qO T n P0 i + T 0 0))) 37 (fun _ => nI (k + 1)) := by
          rw [e5]
          have a1 : (va_up S3 35 (fun _ => S3 28 (q1 T n P0 i))) 35 0 + (va_up S3 35 (fun _ => S3 28 (q1 T n P0 i))) 8 ((0 : Int32)).toNatClampNeg = qC T n P0 i + qO T n P0 i + T 0 0 := by
            show S3 28 (q1 T n P0 i) + S3 8 0 = _
            rw [cur3.2.1, R3.1 0 (by decide)]
          rw [a1]
          have a2 : (va_up (va_up S3 35 (fun _ => S3 28 (q1 T n P0 i))) 34 (upd ((va_up S3 35 (fun _ => S3 28 (q1 T n P0 i))) 34) k (qC T n P0 i + qO T n P0 i + T 0 0))) 37 0 + (1 : Int32) = nI (k + 1) := by
            show S3 37 0 + 1 = _
            rw [h373, nI_1]
          rw [a2]
          rfl
        refine hK (i + 1) _ _ (Nat.lt_succ_self i) (by omega) ?_ hm'
        have k5 : mKeep M S5 := by
          intro j hj
          rw [← k3 j hj, e5']
          unfold va_up
          rw [if_neg (by omega), if_neg (by omega), if_neg (by omega)]
        refine ⟨k5, by rw [e5']; exact h363, fun j hj => ?_, ⟨c + o, ?_, by omega, fun z => by omega, fun j hj => ?_⟩, k + 1, by rw [e5']; rfl, ?_⟩
        · have same : mRow T n P0 S3 j := by
            rcases Nat.lt_or_ge j i with q | q
            · exact row3 j q
            · have : j = i := by omega
              subst this
              exact ⟨h263, cur3.1, cur3.2.1, cur3.2.2.1, by rw [h303, h0], cur3.2.2.2.1, cur3.2.2.2.2⟩
          rw [e5']
          exact same
        · rw [e5']
          show S3 28 (q1 T n P0 i) = _
          rw [cur3.2.1, ec, eo, nI_add]
        · have : j = i := by omega
          subst this
          exact ⟨by rw [ec, eo, nI_add], h0⟩
        · refine zCh_push hch3 (fun j _ => by rw [e5']; rfl) (fun j hj => ?_) hst ?_ ?_ hpos h0
          · rw [e5']
            exact pk_un (by omega)
          · rw [e5']
            show S3 33 k = _
            rw [h333]
            exact h33
          · rw [e5']
            exact pk_us
      have tail : ∀ (sc r5 : Int32), sc = qS T n P0 i → (0 < sc → i + 1 < zcn P0 n ∧ r5 = nI (q1 T n P0 (i + 1))) → wpb_X5_goes_113 (nI L) Q (fun x2 x3 x4 S => wpl_X5_goes_50 (nI L) Q K17 (f + 1) x2 x3 x4 S) K17 (nI (zclr Lm (q1 T n P0 i))) (nI (q1 T n P0 i)) r5 sc S3 := by
        intro sc r5 hsc hr5
        refine ⟨fun q => ?_, fun q => ?_⟩
        · have s0 : s = 0 := by
            rw [hsc, es] at q
            have := (nI_leI (b := 0) (by omega) (by omega)).mp q
            omega
          have e0 : sc = 0 := by rw [hsc, es, s0]; rfl
          unfold wpb_X5_goes_132
          rw [e0]
          exact fin (by rw [← hsc, e0]) f
        · have hp : 0 < sc := znle.mp q
          obtain ⟨hi1, er5⟩ := hr5 hp
          have hxl : q1 T n P0 (i + 1) < n := q1_lt hi1
          have hne : q1 T n P0 i ≠ q1 T n P0 (i + 1) := q1_ne (Nat.lt_succ_self i) hi1
          rw [er5]
          refine M_held R3 hV hlt hxl ?_
          unfold wpb_X5_goes_132
          obtain ⟨c2, o2, s2, hB2⟩ := V_q (P0 := P0) hV (i + 1) hi1
          have hord := V_ord hV hi1 ⟨ec, hc1, eo, ho1, es, hs1⟩ hB2
          have sp : 0 < s := by
            rw [hsc, es] at hp
            exact (nI_ltI (a := 0) (by omega) (by omega)).mp hp
          obtain ⟨hc2, ho2⟩ := hord.2 sp
          have eg : S3 28 (q1 T n P0 i) + sc = qC T n P0 (i + 1) := by
            rw [cur3.2.1, hsc, ec, eo, es, nI_add, nI_add, hB2.1, hc2]
          have eo2 : qO T n P0 (i + 1) = 0 := by rw [hB2.2.2.1, ho2]; rfl
          have eb2 : qB T n P0 (i + 1) = nI (q1 T n P0 i) := by
            show zB5 (qS T n P0 i) (q1 T n P0 i) = _
            unfold zB5
            rw [← hsc, if_pos hp]
          have er2 : (if sYH T (q1 T n P0 (i + 1)) ≤ tv T (q1 T n P0 (i + 1)) 3 then 0 else sc) = qR T n P0 (i + 1) := by
            show _ = zR6 T (qS T n P0 i) (q1 T n P0 (i + 1))
            unfold zR6
            rw [← hsc, if_pos hp]
          rw [er2]
          refine ih (i + 1) st k _ _ (by omega) (by omega) ?_ hm' (fun i' L' S' a1 a2 a3 a4 => hK i' L' S' (by omega) a2 a3 a4) sc hp
          obtain ⟨S6, e6⟩ : ∃ z : zT, z = zM6 S3 (q1 T n P0 i) (q1 T n P0 (i + 1)) sc (qR T n P0 (i + 1)) := ⟨_, rfl⟩
          rw [← e6]
          refine ⟨?_, by rw [e6]; exact h363, fun j hj => ?_, ⟨?_, ?_, ?_, ?_, ?_⟩, by rw [e6]; exact h373, zCh_keep hch3 (fun j _ => by rw [e6]; rfl) (fun j _ => by rw [e6]; rfl), by omega, ?_, fun t t1 t2 => ?_⟩
          · intro j hj
            rw [← k3 j hj, e6]
            unfold zM6 va_up
            rw [if_neg (by omega), if_neg (by omega), if_neg (by omega), if_neg (by omega), if_neg (by omega), if_neg (by omega)]
          · rcases Nat.lt_or_ge j i with q2 | q2
            · have n1 : q1 T n P0 j ≠ q1 T n P0 (i + 1) := q1_ne (by omega) hi1
              have n2 : q1 T n P0 j ≠ q1 T n P0 i := q1_ne q2 hin
              refine mRow_keep (row3 j q2) (by rw [e6]; rfl) (fun k2 _ _ => by rw [e6]; exact zM6_at n1 k2 (fun _ => n2))
            · have : j = i := by omega
              subst this
              refine ⟨by rw [e6]; exact h263, ?_, ?_, ?_, ?_, ?_, ?_⟩
              · rw [e6, zM6_at hne 27 (fun z => by cases z)]; exact cur3.1
              · rw [e6, zM6_at hne 28 (fun z => by cases z)]; exact cur3.2.1
              · rw [e6, zM6_at hne 29 (fun z => by cases z)]; exact cur3.2.2.1
              · rw [e6, ← hsc]; exact pk_us
              · rw [e6, zM6_at hne 31 (fun z => by cases z)]; exact cur3.2.2.2.1
              · rw [e6, zM6_at hne 32 (fun z => by cases z)]; exact cur3.2.2.2.2
          · rw [e6, ← eg]; exact pk_us
          · rw [e6, eo2, ← eg]
            show upd (S3 28) _ (S3 28 (q1 T n P0 i) + sc) _ = _
            rw [pk_us]
            exact (Int32.add_zero _).symm
          · rw [e6, eo2]; exact pk_us
          · rw [e6, eb2]; exact pk_us
          · rw [e6]; exact pk_us
          · rw [e6]
            show S3 33 k = _
            rw [h333]
            exact h33
          · rcases Nat.lt_or_ge t i with q2 | q2
            · exact hpos t t1 q2
            · have : t = i := by omega
              subst this
              rw [← hsc]
              exact hp
      refine M_first R3 hV hm' ?_
      rcases Nat.lt_or_ge (i + 1) (zcn P0 n) with q | q
      · have hx := q1_some (T := T) (n := n) (P0 := P0) (i := i + 1) q
        have hxl : q1 T n P0 (i + 1) < n := q1_lt q
        rw [hx]
        refine zt (nI_pos' (show q1 T n P0 (i + 1) < 2 ^ 31 by omega)) ?_
        refine M_sec (t := c + o) R3 hV hlt hxl (by omega) (by rw [cur3.2.1, ec, eo, nI_add]) (tail _ _ ?_ (fun _ => ⟨q, rfl⟩))
        rw [cur3.2.2.2.1, qS_eq q, ec, eo, nI_add]
      · have hx := q1_none (T := T) (n := n) (P0 := P0) (i := i + 1) (by omega)
        rw [hx]
        exact zf (by decide) (tail 0 _ (qS_last (by omega)).symm (fun z => absurd z (by decide)))
  -- chain after chain
  have L17 : ∀ (f i Lm : Nat) (S : zT), zcn P0 n ≤ i + f → i ≤ zcn P0 n → mOut T n P0 M i S → zMk Lm n (qP T n P0 i) → wpl_X5_goes_17 (nI L) Q (f + 1) (nI Lm) S := by
    intro f
    induction f with
    | zero =>
      intro i Lm S hi hi2 hO hm
      have : i = zcn P0 n := by omega
      subst this
      have hall := zcn_all (P := qP T n P0 (zcn P0 n)) (n := n) (by rw [qP_cnt _ (Nat.le_refl _)]; omega)
      rw [(zMk_0 hm h8).mpr hall]
      obtain ⟨a1, a2, a3, -, a5⟩ := hO
      exact zt rfl (h S ⟨a1, a2, a3, a5⟩)
    | succ f ih =>
      intro i Lm S hi hi2 hO hm
      rcases Nat.lt_or_ge i (zcn P0 n) with hin | hin
      · have hone := q1_some (T := T) hin
        have hlt : q1 T n P0 i < n := q1_lt hin
        have hl8 : q1 T n P0 i < 8 := by omega
        have cx : (nI (q1 T n P0 i)).toNatClampNeg = q1 T n P0 i := zcl (by omega)
        have hne0 : ¬ nI Lm = 0 := by
          intro z
          have z' : Lm = 0 := (nI_eq (b := 0) (by have := hm.1; omega) (by omega)).mp z
          have := (zMk_0 hm h8).mp z' _ hlt
          rw [q1_new hin] at this
          cases this
        obtain ⟨hk, h36, hr, ⟨g, h35, hg, hg0, hgj⟩, k, h37, hch⟩ := hO
        have RS := TR_keep R hk
        have kle := zCh_le hch
        refine zf hne0 (M_first RS hV hm ?_)
        rw [hone]
        have ecc : (if sThere T (q1 T n P0 i) < nI g then nI g else sThere T (q1 T n P0 i)) = qC T n P0 i := by
          cases i with
          | zero =>
            rw [hg0 rfl]
            rfl
          | succ j =>
            obtain ⟨e1, e2⟩ := hgj j rfl
            show _ = zC T (qC T n P0 j + qO T n P0 j + qS T n P0 j) (qS T n P0 j) (q1 T n P0 (j + 1))
            rw [e2, e1]
            unfold zC
            rw [if_neg (show ¬ ((0 : Int32) < 0) by decide), show nI g + (0 : Int32) = nI g from Int32.add_zero _]
        have eoo : (if 0 < i ∧ (if sThere T (q1 T n P0 i) < nI g then nI g else sThere T (q1 T n P0 i)) - nI g < T 0 0 then 0 else sOpn T (q1 T n P0 i)) = qO T n P0 i := by
          rw [ecc]
          cases i with
          | zero => rw [if_neg (fun z => Nat.lt_irrefl 0 z.1)]; rfl
          | succ j =>
            obtain ⟨e1, e2⟩ := hgj j rfl
            have e3 : zGn T n (zq T n P0 j) = nI g := by
              show qC T n P0 j + qO T n P0 j + qS T n P0 j = _
              rw [e2, e1]
              exact Int32.add_zero _
            have e4 : zC T (nI g) (qS T n P0 j) (q1 T n P0 (j + 1)) = qC T n P0 (j + 1) := by rw [← e3]; rfl
            show _ = zO T (zGn T n (zq T n P0 j)) (qS T n P0 j) (q1 T n P0 (j + 1))
            unfold zO
            rw [e3, e4]
            by_cases z : qC T n P0 (j + 1) - nI g < T 0 0
            · rw [if_pos z, if_pos ⟨Nat.succ_pos j, z⟩]
            · rw [if_neg z, if_neg (fun y => z y.2)]
        have ebb : qB T n P0 i = -9 ∧ qR T n P0 i = 0 := by
          cases i with
          | zero => exact ⟨rfl, rfl⟩
          | succ j =>
            obtain ⟨e1, e2⟩ := hgj j rfl
            refine ⟨?_, ?_⟩
            · show zB5 (qS T n P0 j) _ = _
              unfold zB5
              rw [e2, if_neg (by decide)]
            · show zR6 T (qS T n P0 j) _ = _
              unfold zR6
              rw [e2, if_neg (by decide)]
        refine M_opens RS hV hlt h36 (by omega) h35 hg ?_
        rw [eoo, ecc]
        obtain ⟨S2, e2⟩ : ∃ z : zT, z = zM5 S (q1 T n P0 i) (qC T n P0 i) (qO T n P0 i) (qC T n P0 i + qO T n P0 i) (-9) 0 := ⟨_, rfl⟩
        rw [← e2]
        have h372 : S2 37 0 = nI k := by rw [e2]; exact h37
        refine ⟨zv8 hl8, ?_⟩
        rw [h372]
        refine ⟨zv8 (by omega), ?_⟩
        intro S4 e4
        rw [zcl (show k < 1000 by omega)] at e4
        have e4' : S4 = va_up S2 33 (upd (S2 33) k (qC T n P0 i)) := by
          rw [e4]
          have : S2 27 (zE (some (q1 T n P0 i))).toNatClampNeg = qC T n P0 i := by
            show S2 27 (nI (q1 T n P0 i)).toNatClampNeg = _
            rw [cx, e2]
            exact pk_us
          rw [this]
        refine ⟨zcn P0 n - i + 1, ?_⟩
        refine L50 _ (zcn P0 n - i) i i k Lm S4 (by omega) (by omega) ?_ hm (fun i' L' S' a1 a2 a3 a4 => ih i' L' S' (by omega) a2 a3 a4) 1 (by decide)
        refine ⟨fun j hj => ?_, by rw [e4', e2]; exact h36, fun j hj => ?_, ⟨?_, ?_, ?_, ?_, ?_⟩, by rw [e4']; exact h372, zCh_keep hch (fun j hj => ?_) (fun j _ => by rw [e4', e2]; rfl), Nat.le_refl _, by rw [e4']; exact pk_us, fun t t1 t2 => by omega⟩
        · rw [← hk j hj, e4', e2]
          unfold zM5 va_up
          rw [if_neg (by omega), if_neg (by omega), if_neg (by omega), if_neg (by omega), if_neg (by omega), if_neg (by omega)]
        · have n1 : q1 T n P0 j ≠ q1 T n P0 i := q1_ne hj hin
          refine mRow_keep (hr j hj) (by rw [e4', e2]; rfl) (fun k2 a1 a2 => ?_)
          rw [e4', e2]
          unfold va_up
          rw [if_neg (by omega)]
          exact zM5_at n1 k2
        · rw [e4', e2]; exact pk_us
        · rw [e4', e2]; exact pk_us
        · rw [e4', e2]; exact pk_us
        · rw [e4', e2, ebb.1]; exact pk_us
        · rw [e4', e2, ebb.2]; exact pk_us
        · rw [e4', e2]; exact pk_un (by omega)
      · have : i = zcn P0 n := by omega
        subst this
        have hall := zcn_all (P := qP T n P0 (zcn P0 n)) (n := n) (by rw [qP_cnt _ (Nat.le_refl _)]; omega)
        rw [(zMk_0 hm h8).mpr hall]
        obtain ⟨a1, a2, a3, -, a5⟩ := hO
        exact zt rfl (h S ⟨a1, a2, a3, a5⟩)
  intro S1 e1
  intro S2 e2
  intro S3 e3
  have ek : mKeep M S3 := by
    intro j hj
    rw [e3, e2, e1]
    unfold va_up
    rw [if_neg (by omega), if_neg (by omega), if_neg (by omega)]
  refine ⟨zcn P0 n + 1, L17 (zcn P0 n) 0 L S3 (by omega) (Nat.zero_le _) ⟨ek, by rw [e3, e2, e1]; rfl, fun j hj => absurd hj (Nat.not_lt_zero j), ⟨0, by rw [e3, e2, e1]; rfl, by decide, fun _ => rfl, fun j hj => by omega⟩, 0, by rw [e3]; rfl, zCh_0⟩ hL⟩

/-! the going: who is next, and what each one's seconds are -/
def zF (th : Nat → Int32) (P : Nat → Bool) : Nat → Option Nat
  | 0 => none
  | k + 1 => match zF th P k with
    | none => if P k then none else some k
    | some b => if P k then some b else if th k < th b then some k else some b
def zE : Option Nat → Int32
  | none => -9
  | some b => nI b
theorem zF_S (th : Nat → Int32) (P : Nat → Bool) (k : Nat) : zF th P (k + 1) = match zF th P k with
    | none => if P k then none else some k
    | some b => if P k then some b else if th k < th b then some k else some b := rfl
theorem zF_some {th : Nat → Int32} {P : Nat → Bool} : ∀ {n b : Nat}, zF th P n = some b → b < n ∧ P b = false
  | 0, b, h => by cases h
  | n + 1, b, h => by
    rw [zF_S] at h
    cases e : zF th P n with
    | none =>
      rw [e] at h
      by_cases c : P n = true
      · simp [c] at h
      · simp [c] at h
        subst h
        exact ⟨Nat.lt_succ_self _, by simpa using c⟩
    | some x =>
      rw [e] at h
      have ih := zF_some e
      by_cases c : P n = true
      · simp [c] at h
        subst h
        exact ⟨Nat.lt_succ_of_lt ih.1, ih.2⟩
      · by_cases c2 : th n < th x
        · simp [c, c2] at h
          subst h
          exact ⟨Nat.lt_succ_self _, by simpa using c⟩
        · simp [c, c2] at h
          subst h
          exact ⟨Nat.lt_succ_of_lt ih.1, ih.2⟩
theorem zF_none {th : Nat → Int32} {P : Nat → Bool} : ∀ {n : Nat}, zF th P n = none → ∀ w : Nat, w < n → P w = true
  | 0, _, w, hw => absurd hw (Nat.not_lt_zero w)
  | n + 1, h, w, hw => by
    rw [zF_S] at h
    cases e : zF th P n with
    | none =>
      rw [e] at h
      by_cases c : P n = true
      · rcases Nat.lt_or_ge w n with q | q
        · exact zF_none e w q
        · have : w = n := by omega
          subst this
          exact c
      · simp [c] at h
    | some x =>
      rw [e] at h
      by_cases c : P n = true
      · simp [c] at h
      · by_cases c2 : th n < th x
        · simp [c, c2] at h
        · simp [c, c2] at h
/-- how many have not passed -/
def zcn (P : Nat → Bool) : Nat → Nat
  | 0 => 0
  | k + 1 => zcn P k + (if P k then 0 else 1)
theorem zcn_S (P : Nat → Bool) (k : Nat) : zcn P (k + 1) = zcn P k + (if P k then 0 else 1) := rfl
theorem zcn_cong {P P' : Nat → Bool} : ∀ {n : Nat}, (∀ w : Nat, w < n → P w = P' w) → zcn P n = zcn P' n
  | 0, _ => rfl
  | n + 1, h => by rw [zcn_S, zcn_S, zcn_cong (fun w hw => h w (Nat.lt_succ_of_lt hw)), h n (Nat.lt_succ_self n)]
theorem zcn_0 {P : Nat → Bool} : ∀ {n : Nat}, (∀ w : Nat, w < n → P w = true) → zcn P n = 0
  | 0, _ => rfl
  | n + 1, h => by rw [zcn_S, zcn_0 (fun w hw => h w (Nat.lt_succ_of_lt hw)), h n (Nat.lt_succ_self n)]; rfl
theorem zcn_all {P : Nat → Bool} : ∀ {n : Nat}, zcn P n = 0 → ∀ w : Nat, w < n → P w = true
  | 0, _, w, hw => absurd hw (Nat.not_lt_zero w)
  | n + 1, h, w, hw => by
    rw [zcn_S] at h
    rcases Nat.lt_or_ge w n with q | q
    · exact zcn_all (by omega) w q
    · have : w = n := by omega
      subst this
      by_cases c : P w = true
      · exact c
      · simp [c] at h
theorem zcn_up {P : Nat → Bool} {b : Nat} : ∀ {n : Nat}, b < n → P b = false → zcn (fun w => P w || w == b) n + 1 = zcn P n
  | 0, h, _ => absurd h (Nat.not_lt_zero b)
  | n + 1, h, hb => by
    rw [zcn_S, zcn_S]
    rcases Nat.lt_or_ge b n with q | q
    · have ih := zcn_up q hb
      have e : (n == b) = false := by simp; omega
      simp only [e, Bool.or_false]
      omega
    · have : b = n := by omega
      subst this
      have e : zcn (fun w => P w || w == b) b = zcn P b := zcn_cong (fun w hw => by
        have e : (w == b) = false := by simp; omega
        simp only [e, Bool.or_false])
      rw [e, hb]
      simp
theorem zcn_le (P : Nat → Bool) : ∀ n : Nat, zcn P n ≤ n
  | 0 => Nat.le_refl _
  | n + 1 => by
    have := zcn_le P n
    rw [zcn_S]
    split <;> omega
theorem zcn_f : ∀ n : Nat, zcn (fun _ => false) n = n
  | 0 => rfl
  | n + 1 => by rw [zcn_S, zcn_f n]; rfl
/-- one who comes: who has passed, who he is, COMES, OPENS, BY, RUNS -/
abbrev zTau : Type := (Nat → Bool) × Nat × Int32 × Int32 × Int32 × Int32
def zC (T : zT) (g s : Int32) (x : Nat) : Int32 := if 0 < s then g else if sThere T x < g then g else sThere T x
def zO (T : zT) (g s : Int32) (x : Nat) : Int32 := if zC T g s x - g < T 0 0 then 0 else sOpn T x
def zB5 (s : Int32) (a : Nat) : Int32 := if 0 < s then nI a else -9
def zR6 (T : zT) (s : Int32) (x : Nat) : Int32 := if 0 < s then (if sYH T x ≤ tv T x 3 then 0 else s) else 0
def zC0 (T : zT) (x : Nat) : Int32 := if sThere T x < 0 then 0 else sThere T x
def zPas (τ : zTau) : Nat → Bool := fun w => τ.1 w || w == τ.2.1
def zNx (T : zT) (n : Nat) (τ : zTau) : Option Nat := zF (sThere T) (zPas τ) n
def zSc (T : zT) (n : Nat) (τ : zTau) : Int32 := match zNx T n τ with
  | none => 0
  | some x => sSec T (τ.2.2.1 + τ.2.2.2.1) τ.2.1 x (if τ.2.2.2.2.1 < 0 then 0 else 1)
def zGn (T : zT) (n : Nat) (τ : zTau) : Int32 := τ.2.2.1 + τ.2.2.2.1 + zSc T n τ
def zIni (T : zT) (n : Nat) (P0 : Nat → Bool) : zTau := (P0, (zF (sThere T) P0 n).getD 0, zC0 T ((zF (sThere T) P0 n).getD 0), sOpn T ((zF (sThere T) P0 n).getD 0), -9, 0)
def zStp (T : zT) (n : Nat) (τ : zTau) : zTau := (zPas τ, (zNx T n τ).getD 0, zC T (zGn T n τ) (zSc T n τ) ((zNx T n τ).getD 0), zO T (zGn T n τ) (zSc T n τ) ((zNx T n τ).getD 0), zB5 (zSc T n τ) τ.2.1, zR6 T (zSc T n τ) ((zNx T n τ).getD 0))
def zq (T : zT) (n : Nat) (P0 : Nat → Bool) : Nat → zTau
  | 0 => zIni T n P0
  | i + 1 => zStp T n (zq T n P0 i)
def qP (T : zT) (n : Nat) (P0 : Nat → Bool) (i : Nat) : Nat → Bool := (zq T n P0 i).1
def q1 (T : zT) (n : Nat) (P0 : Nat → Bool) (i : Nat) : Nat := (zq T n P0 i).2.1
def qC (T : zT) (n : Nat) (P0 : Nat → Bool) (i : Nat) : Int32 := (zq T n P0 i).2.2.1
def qO (T : zT) (n : Nat) (P0 : Nat → Bool) (i : Nat) : Int32 := (zq T n P0 i).2.2.2.1
def qB (T : zT) (n : Nat) (P0 : Nat → Bool) (i : Nat) : Int32 := (zq T n P0 i).2.2.2.2.1
def qR (T : zT) (n : Nat) (P0 : Nat → Bool) (i : Nat) : Int32 := (zq T n P0 i).2.2.2.2.2
def qS (T : zT) (n : Nat) (P0 : Nat → Bool) (i : Nat) : Int32 := zSc T n (zq T n P0 i)
def qL (T : zT) (n : Nat) (P0 : Nat → Bool) (i : Nat) : Int32 := tv T (q1 T n P0 i) 6 * (qO T n P0 i + qS T n P0 i) + qR T n P0 i
section ZQ
variable {T : zT} {n : Nat} {P0 : Nat → Bool}
theorem q1_eq : ∀ i : Nat, q1 T n P0 i = (zF (sThere T) (qP T n P0 i) n).getD 0
  | 0 => rfl
  | _ + 1 => rfl
theorem qP_S (i : Nat) : qP T n P0 (i + 1) = fun w => qP T n P0 i w || w == q1 T n P0 i := rfl
theorem qP_cnt : ∀ i : Nat, i ≤ zcn P0 n → zcn (qP T n P0 i) n = zcn P0 n - i
  | 0, _ => rfl
  | i + 1, h => by
    have ih := qP_cnt i (by omega)
    rw [qP_S]
    cases e : zF (sThere T) (qP T n P0 i) n with
    | none =>
      have := zcn_0 (zF_none e)
      omega
    | some b =>
      obtain ⟨hb, hf⟩ := zF_some e
      have hq : q1 T n P0 i = b := by rw [q1_eq, e]; rfl
      have := zcn_up hb hf
      rw [hq]
      omega
theorem q1_some {i : Nat} (h : i < zcn P0 n) : zF (sThere T) (qP T n P0 i) n = some (q1 T n P0 i) := by
  have h1 := qP_cnt (T := T) i (Nat.le_of_lt h)
  rw [q1_eq]
  cases e : zF (sThere T) (qP T n P0 i) n with
  | none =>
    have := zcn_0 (zF_none e)
    omega
  | some b => rfl
theorem q1_none {i : Nat} (h : i = zcn P0 n) : zF (sThere T) (qP T n P0 i) n = none := by
  have h1 := qP_cnt (T := T) (n := n) (P0 := P0) i (by omega)
  cases e : zF (sThere T) (qP T n P0 i) n with
  | none => rfl
  | some b =>
    obtain ⟨hb, hf⟩ := zF_some e
    have := zcn_all (P := qP T n P0 i) (n := n) (by omega) b hb
    rw [hf] at this
    cases this
theorem q1_lt {i : Nat} (h : i < zcn P0 n) : q1 T n P0 i < n := (zF_some (q1_some h)).1
theorem q1_new {i : Nat} (h : i < zcn P0 n) : qP T n P0 i (q1 T n P0 i) = false := (zF_some (q1_some h)).2
theorem qP_mono {w j : Nat} : ∀ k : Nat, qP T n P0 j w = true → qP T n P0 (j + k) w = true
  | 0, h => h
  | k + 1, h => by
    have := qP_mono k h
    show qP T n P0 ((j + k) + 1) w = true
    rw [qP_S]
    simp [this]
theorem qP_in {j i : Nat} (h : j < i) : qP T n P0 i (q1 T n P0 j) = true := by
  have h1 : qP T n P0 (j + 1) (q1 T n P0 j) = true := by rw [qP_S]; simp
  have := qP_mono (i - (j + 1)) h1
  rwa [show j + 1 + (i - (j + 1)) = i by omega] at this
theorem q1_ne {j i : Nat} (h : j < i) (hi : i < zcn P0 n) : q1 T n P0 j ≠ q1 T n P0 i := by
  intro e
  have h1 := qP_in (T := T) (n := n) (P0 := P0) h
  rw [e, q1_new hi] at h1
  cases h1
theorem qP_out {w : Nat} : ∀ i : Nat, qP T n P0 i w = true → P0 w = true ∨ ∃ j : Nat, j < i ∧ q1 T n P0 j = w
  | 0, h => Or.inl h
  | i + 1, h => by
    rw [qP_S] at h
    simp only [Bool.or_eq_true, beq_iff_eq] at h
    rcases h with h | h
    · rcases qP_out i h with h | ⟨j, h1, h2⟩
      · exact Or.inl h
      · exact Or.inr ⟨j, by omega, h2⟩
    · exact Or.inr ⟨i, Nat.lt_succ_self i, h.symm⟩
theorem q1_onto {w : Nat} (hw : w < n) (h0 : P0 w = false) : ∃ j : Nat, j < zcn P0 n ∧ q1 T n P0 j = w := by
  have h1 := zcn_all (P := qP T n P0 (zcn P0 n)) (n := n) (by rw [qP_cnt _ (Nat.le_refl _)]; omega) w hw
  rcases qP_out _ h1 with h | h
  · rw [h0] at h; cases h
  · exact h
theorem qS_eq {i : Nat} (h : i + 1 < zcn P0 n) : qS T n P0 i = sSec T (qC T n P0 i + qO T n P0 i) (q1 T n P0 i) (q1 T n P0 (i + 1)) (if qB T n P0 i < 0 then 0 else 1) := by
  have h1 := q1_some (T := T) h
  unfold qS zSc
  rw [show zNx T n (zq T n P0 i) = some (q1 T n P0 (i + 1)) from h1]
  rfl
theorem qS_last {i : Nat} (h : i + 1 = zcn P0 n) : qS T n P0 i = 0 := by
  have h1 := q1_none (T := T) h
  unfold qS zSc
  rw [show zNx T n (zq T n P0 i) = none from h1]
end ZQ
theorem R_next {G : zT} {n : Nat} {th : Nat → Int32} {P : Nat → Bool} {Q : Int32 → Prop} (hn : G 10 0 = nI n) (h8 : n ≤ 8) (h1 : ∀ w : Nat, w < n → G 8 w = th w) (h2 : ∀ w : Nat, w < n → G 9 w = if P w then 1 else 0) (h : Q (zE (zF th P n))) : wp_X1_findNext G Q := by
  have key : ∀ (k i : Nat) (x2 : Int32), i + k = n → (∀ b, zF th P i = some b → x2 = th b) → wpl_X1_findNext_7 G Q (k + 1) (zE (zF th P i)) x2 (nI i) := by
    intro k
    induction k with
    | zero =>
      intro i x2 hi _
      have : i = n := by omega
      subst this
      exact zt (by rw [hn]; exact Int32.le_refl _) h
    | succ k ih =>
      intro i x2 hi hx
      have hin : i < n := by omega
      have g8 := h1 i hin
      have g9 := h2 i hin
      have hS := zF_S th P i
      refine zf (by rw [hn]; exact nI_ge hin (by omega)) ?_
      cases e : zF th P i with
      | none =>
        rw [e] at hS
        refine zt (by decide) ?_
        unfold wpb_X1_findNext_31 wpb_X1_findNext_36
        refine R_at rfl (show i < 8 by omega) (by decide) ?_
        rw [g9]
        by_cases c : P i = true
        · rw [if_pos c]
          refine zf (by decide) ?_
          rintro _ rfl
          have := ih (i + 1) x2 (by omega) (fun b hb => by rw [hS] at hb; simp [c] at hb)
          rw [hS] at this
          simp only [c, if_true] at this
          rw [show nI i + (1 : Int32) = nI (i + 1) from nI_1 i]
          exact this
        · rw [if_neg c]
          refine zt rfl (zf (by decide) (R_at rfl (show i < 8 by omega) (by decide) ?_))
          rw [g8]
          rintro _ rfl
          have := ih (i + 1) (th i) (by omega) (fun b hb => by rw [hS] at hb; simp [c] at hb; rw [hb])
          rw [hS] at this
          simp only [c] at this
          rw [show nI i + (1 : Int32) = nI (i + 1) from nI_1 i]
          exact this
      | some b =>
        rw [e] at hS
        have hb := (zF_some e).1
        have hxb := hx b e
        subst hxb
        refine zf (nI_pos (show b < 2 ^ 31 by omega)) (R_at rfl (show i < 8 by omega) (by decide) ?_)
        rw [g8]
        refine ⟨fun c2 => ?_, fun c2 => ?_⟩
        · refine R_at rfl (show i < 8 by omega) (by decide) ?_
          have hS' : zF th P (i + 1) = some b := by
            rw [hS]
            have : ¬ th i < th b := znl.mpr c2
            simp [this]
          have := ih (i + 1) (th b) (by omega) (fun b' hb' => by rw [hS'] at hb'; cases hb'; rfl)
          rw [hS'] at this
          rw [g9]
          by_cases c : P i = true
          · rw [if_pos c]
            refine zf (by decide) ?_
            rintro _ rfl
            rw [show nI i + (1 : Int32) = nI (i + 1) from nI_1 i]
            exact this
          · rw [if_neg c]
            refine zt rfl (zt rfl ?_)
            rintro _ rfl
            rw [show nI i + (1 : Int32) = nI (i + 1) from nI_1 i]
            exact this
        · have c3 : th i < th b := znle.mp c2
          unfold wpb_X1_findNext_31 wpb_X1_findNext_36
          refine R_at rfl (show i < 8 by omega) (by decide) ?_
          rw [g9]
          by_cases c : P i = true
          · rw [if_pos c]
            refine zf (by decide) ?_
            rintro _ rfl
            have hS' : zF th P (i + 1) = some b := by rw [hS]; simp [c]
            have := ih (i + 1) (th b) (by omega) (fun b' hb' => by rw [hS'] at hb'; cases hb'; rfl)
            rw [hS'] at this
            rw [show nI i + (1 : Int32) = nI (i + 1) from nI_1 i]
            exact this
          · rw [if_neg c]
            refine zt rfl (zf (by decide) (R_at rfl (show i < 8 by omega) (by decide) ?_))
            rw [g8]
            rintro _ rfl
            have hS' : zF th P (i + 1) = some i := by rw [hS]; simp [c, c3]
            have := ih (i + 1) (th i) (by omega) (fun b' hb' => by rw [hS'] at hb'; cases hb'; rfl)
            rw [hS'] at this
            rw [show nI i + (1 : Int32) = nI (i + 1) from nI_1 i]
            exact this
  exact ⟨n + 1, key n 0 0 (by omega) (fun b hb => by cases hb)⟩

section OK5
variable {E N F IT IF L M G Mi : zT}
theorem R_fitting {c q : Int32} {n : Nat} {Q : Int32 → zT → Prop} (hn : F 4 0 = nI n) (h10 : n ≤ 10) (h : Q (if q = 0 then nI (zFt F c n 41).1 else if q = 1 then (zFt F c n 41).2.1 else (zFt F c n 41).2.2) E) : ∃ nn : Nat, wpl_X4_fitting_36 F c q Q nn 0 (-9) (-9) 0 E := by
  have key : ∀ k f : Nat, f + k = 41 → wpl_X4_fitting_36 F c q Q (k + 1) (nI (zFt F c n f).1) (zFt F c n f).2.1 (zFt F c n f).2.2 (nI f) E := by
    intro k
    induction k with
    | zero =>
      intro f hf
      have : f = 41 := by omega
      subst this
      refine zt (by decide) ?_
      unfold wpb_X4_fitting_82
      refine ⟨fun c1 => ?_, fun c1 => ⟨fun c2 => ?_, fun c2 => ?_⟩⟩
      · rw [if_pos c1] at h; exact h
      · rw [if_neg c1, if_pos c2] at h; exact h
      · rw [if_neg c1, if_neg c2] at h; exact h
    | succ k ih =>
      intro f hf
      have ih' := ih (f + 1) (by omega)
      have ni : nI f + (1 : Int32) = nI (f + 1) := nI_1 f
      have hle := (zFt_le (F := F) (c := c) (n := n) f).1
      refine zf (znl.mpr ((nI_leI (b := 40) (by omega) (by omega)).mpr (by omega))) (R_fit hn h10 ?_)
      by_cases z : zFit F c (nI f) n = true
      · rw [if_pos z]
        have e : zFt F c n (f + 1) = ((zFt F c n f).1 + 1, (if (zFt F c n f).1 = 0 then nI f else (zFt F c n f).2.1), nI f) := if_pos z
        rw [e] at ih'
        refine zf (by decide) ⟨fun c1 => ?_, fun c1 => ?_⟩
        · have y : (zFt F c n f).1 = 0 := (nI_eq (b := 0) (by omega) (by omega)).mp c1
          unfold wpb_X4_fitting_67
          rintro _ rfl
          unfold wpb_X4_fitting_76
          rintro _ rfl
          rw [ni, nI_1]
          rw [if_pos y] at ih'
          exact ih'
        · have y : ¬ (zFt F c n f).1 = 0 := fun w => c1 (by rw [w]; rfl)
          unfold wpb_X4_fitting_67
          rintro _ rfl
          unfold wpb_X4_fitting_76
          rintro _ rfl
          rw [ni, nI_1]
          rw [if_neg y] at ih'
          exact ih'
      · rw [if_neg z]
        have e : zFt F c n (f + 1) = zFt F c n f := if_neg z
        rw [e] at ih'
        refine zt rfl ?_
        unfold wpb_X4_fitting_76
        rintro _ rfl
        rw [ni]
        exact ih'
  exact ⟨42, key 41 0 (by omega)⟩
theorem M_fitting {c q : Int32} {n : Nat} {Q : Int32 → zT → Prop} (hF : zFM F M) (hv : zFv F n) (hc : ¬ c < 1) (hc2 : ¬ 3 < c) (h : Q (if q = 0 then nI (zFt F c n 41).1 else if q = 1 then (zFt F c n 41).2.1 else (zFt F c n 41).2.2) M) : ∃ nn : Nat, wpl_X5_fitting_38 c q Q nn 0 (-9) (-9) 0 M := by
  have key : ∀ k f : Nat, f + k = 41 → wpl_X5_fitting_38 c q Q (k + 1) (nI (zFt F c n f).1) (zFt F c n f).2.1 (zFt F c n f).2.2 (nI f) M := by
    intro k
    induction k with
    | zero =>
      intro f hf
      have : f = 41 := by omega
      subst this
      refine zt (by decide) ?_
      unfold wpb_X5_fitting_85
      refine ⟨fun c1 => ?_, fun c1 => ⟨fun c2 => ?_, fun c2 => ?_⟩⟩
      · rw [if_pos c1] at h; exact h
      · rw [if_neg c1, if_pos c2] at h; exact h
      · rw [if_neg c1, if_neg c2] at h; exact h
    | succ k ih =>
      intro f hf
      have ih' := ih (f + 1) (by omega)
      have ni : nI f + (1 : Int32) = nI (f + 1) := nI_1 f
      obtain ⟨hle, hsg⟩ := zFt_le (F := F) (c := c) (n := n) f
      have hsg := hsg (by omega)
      refine zf (znl.mpr ((nI_leI (b := 40) (by omega) (by omega)).mpr (by omega))) (M_fit hF hv hc hc2 ?_)
      by_cases z : zFit F c (nI f) n = true
      · rw [if_pos z]
        have e : zFt F c n (f + 1) = ((zFt F c n f).1 + 1, (if (zFt F c n f).1 = 0 then nI f else (zFt F c n f).2.1), nI f) := if_pos z
        rw [e] at ih'
        refine zf (by decide) ?_
        rintro _ rfl
        refine ⟨fun c1 => ?_, fun c1 => ?_⟩
        · have y : ¬ (zFt F c n f).1 = 0 := fun w => absurd c1 (znle.mpr (hsg.mp w))
          unfold wpb_X5_fitting_73 wpb_X5_fitting_79
          rintro _ rfl
          rw [ni, nI_1]
          rw [if_neg y] at ih'
          exact ih'
        · have y : (zFt F c n f).1 = 0 := hsg.mpr (znle.mp c1)
          unfold wpb_X5_fitting_73 wpb_X5_fitting_79
          rintro _ rfl
          rw [ni, nI_1]
          rw [if_pos y] at ih'
          exact ih'
      · rw [if_neg z]
        have e : zFt F c n (f + 1) = zFt F c n f := if_neg z
        rw [e] at ih'
        refine zt rfl ?_
        unfold wpb_X5_fitting_79
        rintro _ rfl
        rw [ni]
        exact ih'
  exact ⟨42, key 41 0 (by omega)⟩
theorem ok_fitting {c q : Int32} (hI : Inv E N F IT IF L M) : wp_X4_fitting F c q E (fun r E' => wp_X5_fitting c q M (fun r' M' => r' = r ∧ Inv E' N F IT IF L M')) := by
  obtain ⟨-, -, hF, ⟨n, hv⟩, -⟩ := id hI
  have bad : (∀ Q' : Int32 → zT → Prop, wpb_X5_fitting_18 c q Q' M → wp_X5_fitting c q M Q') → wpb_X4_fitting_16 F c q (fun r E' => wp_X5_fitting c q M (fun r' M' => r' = r ∧ Inv E' N F IT IF L M')) E := by
    intro hm
    unfold wpb_X4_fitting_16
    exact RF 1 (by decide) rfl (hm _ (MN 1 (by decide) rfl ⟨rfl, Inv_ref hI 1 (by decide)⟩))
  refine ⟨fun c1 => zt rfl (bad (fun Q' h => I0 (Or.inl c1) (zt rfl h))), fun c1 => ⟨fun c2 => zt rfl (bad (fun Q' h => I0 (Or.inr c2) (zt rfl h))), fun c2 => zf (by decide) ⟨fun c3 => bad (fun Q' h => I1 c1 c2 (zf (by decide) (I0 (Or.inl c3) (zt rfl h)))), fun c3 => ⟨fun c4 => ?_, fun c4 => bad (fun Q' h => I1 c1 c2 (zf (by decide) (I0 (Or.inr (znle.mp c4)) (zt rfl h))))⟩⟩⟩⟩
  exact R_fitting hv.1 hv.2.1 (I1 c1 c2 (zf (by decide) (I1 c3 (znl.mpr c4) (zf (by decide) (M_fitting hF hv c1 c2 ⟨rfl, hI⟩)))))
/-- a row is copied -/
theorem R_copy {n : Nat} {f g : Nat → Int32} {Q : (Nat → Int32) → Prop} (hn : n < 1000) (h : ∀ g' : Nat → Int32, (∀ j : Nat, j < n → g' j = f j) → Q g') : wp_X4_copyRow n n f g Q := by
  have key : ∀ (k i : Nat) (g1 : Nat → Int32), i + k = n → (∀ j : Nat, j < i → g1 j = f j) → wpl_X4_copyRow_2 n n f Q (k + 1) (nI i) g1 := by
    intro k
    induction k with
    | zero =>
      intro i g1 hi hg
      have : i = n := by omega
      subst this
      exact zt (Int32.le_refl _) (h g1 hg)
    | succ k ih =>
      intro i g1 hi hg
      have hin : i < n := by omega
      refine zf (nI_ge hin (by omega)) (zf (nI_ge hin (by omega)) ⟨vp_in_nI hin (by omega), vp_in_nI hin (by omega), ?_⟩)
      rintro _ rfl
      rintro _ rfl
      rw [show nI i + (1 : Int32) = nI (i + 1) from nI_1 i, zcl (by omega)]
      refine ih (i + 1) _ (by omega) (fun j hj => ?_)
      by_cases c : j = i
      · subst c; exact pk_us
      · rw [pk_un c]; exact hg j (by omega)
  exact ⟨n + 1, key n 0 g (by omega) (fun j hj => absurd hj (Nat.not_lt_zero j))⟩
def TEq (A B : zT) : Prop := (∀ k : Nat, k < 5 → A 0 k = B 0 k) ∧ (∀ w : Nat, w < 8 → ∀ k : Nat, k < 7 → tv A w k = tv B w k) ∧ A 2 0 = B 2 0
theorem TEq.rf {A : zT} : TEq A A := ⟨fun _ _ => rfl, fun _ _ _ _ => rfl, rfl⟩
theorem R_bec {A B : zT} {Q : zT → Prop} (h : ∀ B' : zT, TEq B' A → Q B') : wp_X3_become A B Q := by
  refine R_copy (by decide) (fun g hg => ?_)
  rintro _ rfl
  refine R_copy (by decide) (fun g2 hg2 => ?_)
  rintro _ rfl
  rintro _ rfl
  exact h _ ⟨fun k hk => hg k hk, fun w hw k hk => hg2 (w * 7 + k) (by omega), rfl⟩
theorem TEq_TR {A B M : zT} (h : TEq A B) (R : TR B M) : TR A M := by
  obtain ⟨h1, h2, h3⟩ := h
  obtain ⟨r1, r2, r3⟩ := R
  refine ⟨fun k hk => by rw [h1 k hk]; exact r1 k hk, fun w hw => ?_, by rw [h3]; exact r3⟩
  rw [h2 w hw 0 (by decide), h2 w hw 1 (by decide), h2 w hw 2 (by decide), h2 w hw 3 (by decide), h2 w hw 4 (by decide), h2 w hw 5 (by decide), h2 w hw 6 (by decide)]
  exact r2 w hw
theorem TEq_zV {A B : zT} {n : Nat} (h : TEq A B) (hV : zV B n) : zV A n := by
  obtain ⟨h1, h2, h3⟩ := h
  obtain ⟨a1, a2, ⟨d, hd, a3⟩, a4⟩ := hV
  refine ⟨by rw [h3]; exact a1, a2, ⟨d, fun k hk => by rw [h1 k hk]; exact hd k hk, a3⟩, fun w hw => ?_⟩
  obtain ⟨a, ha, hb⟩ := a4 w hw
  exact ⟨a, fun k hk => by rw [h2 w (by omega) k hk]; exact ha k hk, hb⟩
theorem TEq_side {A B : zT} {k : Nat} {v : Int32} (h : TEq A B) : TEq (zNs A k v) (zNs B k v) := by
  refine ⟨fun j hj => ?_, h.2.1, h.2.2⟩
  show upd (A 0) k v j = upd (B 0) k v j
  by_cases z : j = k
  · subst z; rw [pk_us, pk_us]
  · rw [pk_un z, pk_un z, h.1 j hj]
theorem TEq_two {A B : zT} {k : Nat} {v v' : Int32} (h : TEq A (zNs B k v')) : TEq (zNs A k v) (zNs B k v) := by
  refine ⟨fun j hj => ?_, h.2.1, h.2.2⟩
  show upd (A 0) k v j = upd (B 0) k v j
  by_cases z : j = k
  · subst z; rw [pk_us, pk_us]
  · have := h.1 j hj
    rw [pk_un z, pk_un z, this]
    exact pk_un z
theorem zF_cong {th th' : Nat → Int32} {P : Nat → Bool} : ∀ {n : Nat}, (∀ w : Nat, w < n → th w = th' w) → zF th P n = zF th' P n
  | 0, _ => rfl
  | n + 1, h => by
    have ih := zF_cong (P := P) (fun w hw => h w (Nat.lt_succ_of_lt hw))
    rw [zF_S, zF_S, ih]
    cases e : zF th' P n with
    | none => rfl
    | some b =>
      have hb := (zF_some e).1
      show (if P n then some b else if th n < th b then some n else some b) = (if P n then some b else if th' n < th' b then some n else some b)
      rw [h n (Nat.lt_succ_self n), h b (by omega)]
theorem getD_lt {th : Nat → Int32} {P : Nat → Bool} {n : Nat} (h8 : n ≤ 8) : (zF th P n).getD 0 < 8 := by
  cases e : zF th P n with
  | none => show 0 < 8; decide
  | some b => show b < 8; have := (zF_some e).1; omega
theorem zq_cong {A B : zT} {n : Nat} {P0 : Nat → Bool} (h : TEq A B) (h8 : n ≤ 8) : ∀ i : Nat, zq A n P0 i = zq B n P0 i ∧ qS A n P0 i = qS B n P0 i ∧ qL A n P0 i = qL B n P0 i := by
  obtain ⟨h1, h2, h3⟩ := h
  have eth : ∀ w : Nat, w < 8 → sThere A w = sThere B w := by
    intro w hw
    unfold sThere
    rw [h2 w hw 1 (by decide), h2 w hw 2 (by decide), h2 w hw 3 (by decide)]
  have eF : ∀ P : Nat → Bool, zF (sThere A) P n = zF (sThere B) P n := fun P => zF_cong (fun w hw => eth w (by omega))
  have eyh : ∀ w : Nat, w < 8 → sYH A w = sYH B w := by
    intro w hw
    unfold sYH
    rw [h2 w hw 0 (by decide), h2 w hw 3 (by decide), h2 w hw 4 (by decide)]
  have eop : ∀ w : Nat, w < 8 → sOpn A w = sOpn B w := by
    intro w hw
    unfold sOpn sOp0
    rw [h1 1 (by decide), h2 w hw 4 (by decide), h2 w hw 0 (by decide)]
  have ego : ∀ (w : Nat) (t : Int32), w < 8 → sGo A w t = sGo B w t := by
    intro w t hw
    unfold sGo
    rw [h2 w hw 1 (by decide), h2 w hw 2 (by decide), h2 w hw 3 (by decide)]
  have eup : ∀ (w x : Nat) (hd : Int32), w < 8 → x < 8 → sUp A w x hd = sUp B w x hd := by
    intro w x hd hw hx
    unfold sUp
    rw [h1 3 (by decide), h1 4 (by decide), h2 w hw 0 (by decide), h2 w hw 6 (by decide), h2 x hx 4 (by decide), h2 x hx 5 (by decide), h2 x hx 6 (by decide)]
  have esc : ∀ (t : Int32) (w x : Nat) (hd : Int32), w < 8 → x < 8 → sSec A t w x hd = sSec B t w x hd := by
    intro t w x hd hw hx
    unfold sSec
    rw [h2 x hx 1 (by decide), ego x t hx, eup w x hd hw hx, eyh x hx]
  have eSc : ∀ τ : zTau, τ.2.1 < 8 → zSc A n τ = zSc B n τ := by
    intro τ hτ
    unfold zSc zNx
    rw [eF]
    cases e : zF (sThere B) (zPas τ) n with
    | none => rfl
    | some x =>
      have := (zF_some e).1
      exact esc _ _ _ _ hτ (by omega)
  have e1 : ∀ i : Nat, zq A n P0 i = zq B n P0 i ∧ (zq B n P0 i).2.1 < 8 := by
    intro i
    induction i with
    | zero =>
      have g := getD_lt (th := sThere B) (P := P0) h8
      refine ⟨?_, g⟩
      show zIni A n P0 = zIni B n P0
      unfold zIni zC0
      rw [eF, eth _ g, eop _ g]
    | succ i ih =>
      have g := getD_lt (th := sThere B) (P := zPas (zq B n P0 i)) h8
      refine ⟨?_, g⟩
      show zStp A n (zq A n P0 i) = zStp B n (zq B n P0 i)
      rw [ih.1]
      unfold zStp zO zC zR6 zGn zNx
      rw [eF, eSc _ ih.2, eth _ g, eop _ g, eyh _ g, h1 0 (by decide), h2 _ g 3 (by decide)]
  intro i
  obtain ⟨a, b⟩ := e1 i
  have s : qS A n P0 i = qS B n P0 i := by
    unfold qS
    rw [a]
    exact eSc _ b
  refine ⟨a, s, ?_⟩
  unfold qL
  rw [s]
  unfold q1 qO qR
  rw [a, h2 _ b 6 (by decide)]
theorem tot_cong {A B : zT} {n : Nat} (h : TEq A B) (h8 : n ≤ 8) : zsum (qL A n P00) n = zsum (qL B n P00) n := zsum_cong (fun j _ => (zq_cong h h8 j).2.2)
end OK5

section OK10
variable {E N F IT IF L M G Mi : zT}
theorem zph_ne (k w : Nat) : zph k w ≠ k := by unfold zph; split <;> omega
theorem zph_lt {k w n : Nat} (h : w + 1 < n) : zph k w < n := by unfold zph; split <;> omega
theorem zF_lo {th th' : Nat → Int32} {P P' : Nat → Bool} {n k : Nat} (hk : k < n) (ht : ∀ w : Nat, w + 1 < n → th (zph k w) = th' w) (hp : ∀ w : Nat, w + 1 < n → P (zph k w) = P' w) (hpk : P k = true) : zF th P n = (zF th' P' (n - 1)).map (zph k) := by
  have same : zF th P (k + 1) = zF th P k := by
    rw [zF_S]
    cases zF th P k with
    | none => simp [hpk]
    | some b => simp [hpk]
  have step : ∀ (m q : Nat), m + 1 < n → zph k m = q → zF th P q = (zF th' P' m).map (zph k) → zF th P (q + 1) = (zF th' P' (m + 1)).map (zph k) := by
    intro m q hm hq e
    rw [zF_S, zF_S, e]
    have h1 : P q = P' m := by rw [← hq]; exact hp m hm
    have h2 : th q = th' m := by rw [← hq]; exact ht m hm
    cases e2 : zF th' P' m with
    | none =>
      show (if P q then none else some q) = Option.map (zph k) (if P' m then none else some m)
      rw [h1]
      by_cases c : P' m = true
      · rw [if_pos c, if_pos c]; rfl
      · rw [if_neg c, if_neg c, ← hq]; rfl
    | some b =>
      have hb := (zF_some e2).1
      show (if P q then some (zph k b) else if th q < th (zph k b) then some q else some (zph k b)) = Option.map (zph k) (if P' m then some b else if th' m < th' b then some m else some b)
      rw [h1, h2, ht b (by omega)]
      by_cases c : P' m = true
      · rw [if_pos c, if_pos c]; rfl
      · rw [if_neg c, if_neg c]
        by_cases c2 : th' m < th' b
        · rw [if_pos c2, if_pos c2, ← hq]; rfl
        · rw [if_neg c2, if_neg c2]; rfl
  have key : ∀ m : Nat, m + 1 ≤ n → zF th P (if m ≤ k then m else m + 1) = (zF th' P' m).map (zph k) := by
    intro m
    induction m with
    | zero => intro _; rw [if_pos (Nat.zero_le _)]; rfl
    | succ m ih =>
      intro hm
      have ih' := ih (by omega)
      rcases Nat.lt_or_ge m k with c | c
      · rw [if_pos (by omega)] at ih'
        rw [if_pos (by omega)]
        exact step m m (by omega) (by unfold zph; rw [if_pos c]) ih'
      · rw [if_neg (by omega)]
        have e : zF th P (m + 1) = (zF th' P' m).map (zph k) := by
          rcases Nat.eq_or_lt_of_le c with z | z
          · subst z
            rw [if_pos (Nat.le_refl _)] at ih'
            rw [same]; exact ih'
          · rw [if_neg (by omega)] at ih'
            exact ih'
        exact step m (m + 1) (by omega) (by unfold zph; rw [if_neg (by omega)]) e
  have := key (n - 1) (by omega)
  rcases Nat.lt_or_ge k (n - 1) with c | c
  · rw [if_neg (by omega), show n - 1 + 1 = n by omega] at this
    exact this
  · rw [if_pos (by omega)] at this
    have e : k = n - 1 := by omega
    rw [← this]
    have h := same
    rw [e, show n - 1 + 1 = n by omega] at h
    exact h
def P0k (k : Nat) : Nat → Bool := fun v => P00 v || v == k
theorem zcn_k {n k : Nat} (hk : k < n) : zcn (P0k k) n = n - 1 := by
  have := zcn_up (P := P00) hk rfl
  rw [zcn_f] at this
  show zcn (fun v => P00 v || v == k) n = n - 1
  omega
theorem lo_eq {A : zT} {n k : Nat} (hA : TLo A N n k) (hk : k < n) (h8 : n ≤ 8) : ∀ i : Nat, i + 1 < n → q1 N n (P0k k) i = zph k (q1 A (n - 1) P00 i) ∧ (∀ w : Nat, w + 1 < n → qP N n (P0k k) i (zph k w) = qP A (n - 1) P00 i w) ∧ qP N n (P0k k) i k = true ∧ qC N n (P0k k) i = qC A (n - 1) P00 i ∧ qO N n (P0k k) i = qO A (n - 1) P00 i ∧ qR N n (P0k k) i = qR A (n - 1) P00 i ∧ (qB N n (P0k k) i < 0 ↔ qB A (n - 1) P00 i < 0) ∧ qS N n (P0k k) i = qS A (n - 1) P00 i := by
  obtain ⟨h1, h2, h3⟩ := hA
  have cA : zcn P00 (n - 1) = n - 1 := zcn_f _
  have cN := zcn_k hk
  have eth : ∀ w : Nat, w + 1 < n → sThere N (zph k w) = sThere A w := by
    intro w hw
    unfold sThere
    rw [h2 w hw 1 (by decide), h2 w hw 2 (by decide), h2 w hw 3 (by decide)]
  have eyh : ∀ w : Nat, w + 1 < n → sYH N (zph k w) = sYH A w := by
    intro w hw
    unfold sYH
    rw [h2 w hw 0 (by decide), h2 w hw 3 (by decide), h2 w hw 4 (by decide)]
  have eop : ∀ w : Nat, w + 1 < n → sOpn N (zph k w) = sOpn A w := by
    intro w hw
    unfold sOpn sOp0
    rw [h1 1 (by decide), h2 w hw 4 (by decide), h2 w hw 0 (by decide)]
  have esc : ∀ (t : Int32) (w x : Nat) (hd : Int32), w + 1 < n → x + 1 < n → sSec N t (zph k w) (zph k x) hd = sSec A t w x hd := by
    intro t w x hd hw hx
    unfold sSec sGo sUp
    rw [eyh x hx, h1 3 (by decide), h1 4 (by decide), h2 w hw 0 (by decide), h2 w hw 6 (by decide), h2 x hx 1 (by decide), h2 x hx 2 (by decide), h2 x hx 3 (by decide), h2 x hx 4 (by decide), h2 x hx 5 (by decide), h2 x hx 6 (by decide)]
  -- the passed ones give who is next
  have eF : ∀ i : Nat, (∀ w : Nat, w + 1 < n → qP N n (P0k k) i (zph k w) = qP A (n - 1) P00 i w) → qP N n (P0k k) i k = true → zF (sThere N) (qP N n (P0k k) i) n = (zF (sThere A) (qP A (n - 1) P00 i) (n - 1)).map (zph k) := fun i a b => zF_lo hk eth a b
  have e1 : ∀ i : Nat, i + 1 < n → (∀ w : Nat, w + 1 < n → qP N n (P0k k) i (zph k w) = qP A (n - 1) P00 i w) → qP N n (P0k k) i k = true → q1 N n (P0k k) i = zph k (q1 A (n - 1) P00 i) := by
    intro i hi a b
    have hA1 := q1_some (T := A) (n := n - 1) (P0 := P00) (i := i) (by omega)
    rw [q1_eq, eF i a b, hA1]
    rfl
  have ePn : ∀ i : Nat, i + 1 < n → (∀ w : Nat, w + 1 < n → qP N n (P0k k) i (zph k w) = qP A (n - 1) P00 i w) → qP N n (P0k k) i k = true → (∀ w : Nat, w + 1 < n → qP N n (P0k k) (i + 1) (zph k w) = qP A (n - 1) P00 (i + 1) w) ∧ qP N n (P0k k) (i + 1) k = true := by
    intro i hi a b
    have h := e1 i hi a b
    refine ⟨fun w hw => ?_, ?_⟩
    · rw [qP_S, qP_S, h]
      show (qP N n (P0k k) i (zph k w) || zph k w == zph k (q1 A (n - 1) P00 i)) = _
      rw [a w hw]
      have : (zph k w == zph k (q1 A (n - 1) P00 i)) = (w == q1 A (n - 1) P00 i) := by
        by_cases c : w = q1 A (n - 1) P00 i
        · rw [c]; simp
        · have : zph k w ≠ zph k (q1 A (n - 1) P00 i) := by
            unfold zph
            split <;> split <;> omega
          rw [beq_eq_false_iff_ne.mpr this, beq_eq_false_iff_ne.mpr c]
      rw [this]
    · rw [qP_S]
      show (qP N n (P0k k) i k || _) = true
      rw [b]
      rfl
  have eS : ∀ i : Nat, i + 1 < n → (∀ w : Nat, w + 1 < n → qP N n (P0k k) i (zph k w) = qP A (n - 1) P00 i w) → qP N n (P0k k) i k = true → qC N n (P0k k) i = qC A (n - 1) P00 i → qO N n (P0k k) i = qO A (n - 1) P00 i → (qB N n (P0k k) i < 0 ↔ qB A (n - 1) P00 i < 0) → qS N n (P0k k) i = qS A (n - 1) P00 i := by
    intro i hi a b c o bb
    rcases Nat.lt_or_ge (i + 2) n with q | q
    · obtain ⟨a2, b2⟩ := ePn i hi a b
      have l1 : q1 A (n - 1) P00 i < n - 1 := q1_lt (by omega)
      have l2 : q1 A (n - 1) P00 (i + 1) < n - 1 := q1_lt (by omega)
      rw [qS_eq (by omega), qS_eq (by omega), e1 i hi a b, e1 (i + 1) (by omega) a2 b2, c, o, esc _ _ _ _ (by omega) (by omega)]
      congr 1
      by_cases z : qB A (n - 1) P00 i < 0
      · rw [if_pos z, if_pos (bb.mpr z)]
      · rw [if_neg z, if_neg (fun y => z (bb.mp y))]
    · rw [qS_last (by omega), qS_last (by omega)]
  intro i
  induction i with
  | zero =>
    intro hi
    have a : ∀ w : Nat, w + 1 < n → qP N n (P0k k) 0 (zph k w) = qP A (n - 1) P00 0 w := by
      intro w hw
      show (false || zph k w == k) = false
      have := zph_ne k w
      simp [this]
    have b : qP N n (P0k k) 0 k = true := by
      show (false || k == k) = true
      simp
    have h := e1 0 hi a b
    have l1 : q1 A (n - 1) P00 0 < n - 1 := q1_lt (by omega)
    have hC : qC N n (P0k k) 0 = qC A (n - 1) P00 0 := by
      show zC0 N (q1 N n (P0k k) 0) = zC0 A (q1 A (n - 1) P00 0)
      unfold zC0
      rw [h, eth _ (by omega)]
    have hO : qO N n (P0k k) 0 = qO A (n - 1) P00 0 := by
      show sOpn N (q1 N n (P0k k) 0) = sOpn A (q1 A (n - 1) P00 0)
      rw [h, eop _ (by omega)]
    exact ⟨h, a, b, hC, hO, rfl, Iff.rfl, eS 0 hi a b hC hO Iff.rfl⟩
  | succ i ih =>
    intro hi
    obtain ⟨p1, p2, p3, p4, p5, p6, p7, p8⟩ := ih (by omega)
    obtain ⟨a, b⟩ := ePn i (by omega) p2 p3
    have h := e1 (i + 1) hi a b
    have l1 : q1 A (n - 1) P00 (i + 1) < n - 1 := q1_lt (by omega)
    have hg : zGn N n (zq N n (P0k k) i) = zGn A (n - 1) (zq A (n - 1) P00 i) := by
      show qC N n (P0k k) i + qO N n (P0k k) i + qS N n (P0k k) i = qC A (n - 1) P00 i + qO A (n - 1) P00 i + qS A (n - 1) P00 i
      rw [p4, p5, p8]
    have hC : qC N n (P0k k) (i + 1) = qC A (n - 1) P00 (i + 1) := by
      show zC N (zGn N n (zq N n (P0k k) i)) (qS N n (P0k k) i) (q1 N n (P0k k) (i + 1)) = zC A (zGn A (n - 1) (zq A (n - 1) P00 i)) (qS A (n - 1) P00 i) (q1 A (n - 1) P00 (i + 1))
      unfold zC
      rw [hg, p8, h, eth _ (by omega)]
    have hO : qO N n (P0k k) (i + 1) = qO A (n - 1) P00 (i + 1) := by
      show zO N (zGn N n (zq N n (P0k k) i)) (qS N n (P0k k) i) (q1 N n (P0k k) (i + 1)) = zO A (zGn A (n - 1) (zq A (n - 1) P00 i)) (qS A (n - 1) P00 i) (q1 A (n - 1) P00 (i + 1))
      unfold zO zC
      rw [hg, p8, h, eth _ (by omega), eop _ (by omega), h1 0 (by decide)]
    have hR : qR N n (P0k k) (i + 1) = qR A (n - 1) P00 (i + 1) := by
      show zR6 N (qS N n (P0k k) i) (q1 N n (P0k k) (i + 1)) = zR6 A (qS A (n - 1) P00 i) (q1 A (n - 1) P00 (i + 1))
      unfold zR6
      rw [p8, h, eyh _ (by omega), h2 _ (by omega) 3 (by decide)]
    have lq : q1 A (n - 1) P00 i < n - 1 := q1_lt (by omega)
    have hB : qB N n (P0k k) (i + 1) < 0 ↔ qB A (n - 1) P00 (i + 1) < 0 := by
      show zB5 (qS N n (P0k k) i) (q1 N n (P0k k) i) < 0 ↔ zB5 (qS A (n - 1) P00 i) (q1 A (n - 1) P00 i) < 0
      unfold zB5
      rw [p8]
      by_cases z : 0 < qS A (n - 1) P00 i
      · rw [if_pos z, if_pos z, p1]
        have := zph_lt (k := k) (w := q1 A (n - 1) P00 i) (n := n) (by omega)
        exact ⟨fun y => absurd y (nI_pos (by omega)), fun y => absurd y (nI_pos (by omega))⟩
      · rw [if_neg z, if_neg z]
    exact ⟨h, a, b, hC, hO, hR, hB, eS (i + 1) hi a b hC hO hB⟩
theorem ok_alone {i : Int32} (hI : Inv E N F IT IF L M) : wp_X4_alone N i E Mi G (fun r E' _ _ => wp_X5_alone i M (fun r' M' => r' = r ∧ Inv E' N F IT IF L M')) := by
  obtain ⟨R, ⟨n, hV⟩, -⟩ := id hI
  have h8 := hV.2.1
  have h13 : M 13 0 = nI n := R.2.2.trans hV.1
  refine W2 R hV (fun w hw e hm => ?_) (fun hm => ?_)
  · subst e
    refine zf (by decide) (R_bec (fun B hB => R_leave (n := n) (by rw [hB.2.2]; exact hV.1) h8 hw (fun A hA => ?_)))
    have hAN : TLo A N n w := by
      refine ⟨fun j hj => by rw [hA.1 j hj]; exact hB.1 j hj, fun u hu j hj => ?_, hA.2.2⟩
      rw [hA.2.1 u hu j hj]
      have := zph_lt (k := w) hu
      exact hB.2.1 _ (by omega) j hj
    have hVA : zV A (n - 1) := by
      obtain ⟨-, -, ⟨d, hd, hd2⟩, hW⟩ := hV
      refine ⟨hAN.2.2, by omega, ⟨d, fun k hk => by rw [hAN.1 k hk]; exact hd k hk, hd2⟩, fun u hu => ?_⟩
      obtain ⟨a, ha, hb⟩ := hW (zph w u) (zph_lt (by omega))
      exact ⟨a, fun k hk => by rw [hAN.2.1 u (by omega) k hk]; exact ha k hk, hb⟩
    refine R_all hVA (fun G' => hm _ (zf (by decide) ?_))
    obtain ⟨m1, m2, m3⟩ := zm5 n (by omega)
    rw [h13, m1, (zm2 _ m2 w (by omega)).1]
    have mk0 : zMk (2 ^ n - 1) n P00 := ⟨m2, fun v hv => by rw [m3 v hv]; simp⟩
    refine M_goes (P0 := P0k w) R hV (zMk_clr mk0 (by omega)) (fun S hS => ?_)
    refine M_loss (M := M) (TR_keep R hS.1) h8 hS.2.1 hS.2.2.1 ⟨?_, Inv_mKeep hI hS.1⟩
    rw [zcn_k hw]
    refine zsum_cong (fun j hj => ?_)
    obtain ⟨p1, p2, p3, p4, p5, p6, p7, p8⟩ := lo_eq hAN hw h8 j (by omega)
    unfold qL
    have l1 : q1 A (n - 1) P00 j < n - 1 := q1_lt (by rw [zcn_f]; omega)
    rw [p1, p5, p6, p8, hAN.2.1 _ (by omega) 6 (by decide)]
  · exact zt rfl (RF 0 (by decide) rfl (hm _ (zt rfl (MN 0 (by decide) rfl ⟨rfl, Inv_ref hI 0 (by decide)⟩))))
end OK10

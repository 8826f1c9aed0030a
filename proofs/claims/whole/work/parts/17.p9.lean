/-! sums, greatest ones, and how long the door stands open -/
def zsum (f : Nat → Int32) : Nat → Int32
  | 0 => 0
  | k + 1 => zsum f k + f k
def zmx (f : Nat → Int32) : Nat → Int32
  | 0 => 0
  | k + 1 => if zmx f k < f k then f k else zmx f k
def zsw (f : Nat → Int32) (P : Nat → Bool) : Nat → Int32
  | 0 => 0
  | k + 1 => zsw f P k + (if P k then 0 else f k)
theorem zsum_cong {f g : Nat → Int32} : ∀ {n : Nat}, (∀ j : Nat, j < n → f j = g j) → zsum f n = zsum g n
  | 0, _ => rfl
  | n + 1, h => by
    show zsum f n + f n = zsum g n + g n
    rw [zsum_cong (fun j hj => h j (Nat.lt_succ_of_lt hj)), h n (Nat.lt_succ_self n)]
theorem zmx_cong {f g : Nat → Int32} : ∀ {n : Nat}, (∀ j : Nat, j < n → f j = g j) → zmx f n = zmx g n
  | 0, _ => rfl
  | n + 1, h => by
    show (if zmx f n < f n then f n else zmx f n) = (if zmx g n < g n then g n else zmx g n)
    rw [zmx_cong (fun j hj => h j (Nat.lt_succ_of_lt hj)), h n (Nat.lt_succ_self n)]
theorem zsw_0 {f : Nat → Int32} {P : Nat → Bool} : ∀ {n : Nat}, (∀ w : Nat, w < n → P w = true) → zsw f P n = 0
  | 0, _ => rfl
  | n + 1, h => by
    show zsw f P n + (if P n then 0 else f n) = 0
    rw [zsw_0 (fun w hw => h w (Nat.lt_succ_of_lt hw)), h n (Nat.lt_succ_self n)]
    rfl
theorem zsw_f {f : Nat → Int32} : ∀ n : Nat, zsw f P00 n = zsum f n
  | 0 => rfl
  | n + 1 => by
    show zsw f P00 n + f n = zsum f n + f n
    rw [zsw_f n]
theorem zsw_cong {f : Nat → Int32} {P P' : Nat → Bool} : ∀ {n : Nat}, (∀ w : Nat, w < n → P w = P' w) → zsw f P n = zsw f P' n
  | 0, _ => rfl
  | n + 1, h => by
    show zsw f P n + (if P n then 0 else f n) = zsw f P' n + (if P' n then 0 else f n)
    rw [zsw_cong (fun w hw => h w (Nat.lt_succ_of_lt hw)), h n (Nat.lt_succ_self n)]
theorem zsw_up {f : Nat → Int32} {P : Nat → Bool} {b : Nat} : ∀ {n : Nat}, b < n → P b = false → zsw f P n = f b + zsw f (fun w => P w || w == b) n
  | 0, h, _ => absurd h (Nat.not_lt_zero b)
  | n + 1, h, hb => by
    show zsw f P n + (if P n then 0 else f n) = f b + (zsw f (fun w => P w || w == b) n + (if (P n || n == b) then 0 else f n))
    rcases Nat.lt_or_ge b n with q | q
    · rw [zsw_up q hb]
      have e : (n == b) = false := by simp; omega
      rw [e, Bool.or_false, Int32.add_assoc]
    · have : b = n := by omega
      subst this
      have e : zsw f (fun w => P w || w == b) b = zsw f P b := zsw_cong (fun w hw => by
        have e : (w == b) = false := by simp; omega
        rw [e, Bool.or_false])
      rw [e, hb]
      simp only [Bool.false_or, beq_self_eq_true, if_true]
      rw [if_neg (by simp), Int32.add_zero, Int32.add_comm]
theorem zsw_q {T : zT} {n : Nat} {P0 : Nat → Bool} {f g : Nat → Int32} (h : ∀ j : Nat, j < zcn P0 n → f (q1 T n P0 j) = g j) : zsw f P0 n = zsum g (zcn P0 n) := by
  have key : ∀ i : Nat, i ≤ zcn P0 n → zsw f P0 n = zsum g i + zsw f (qP T n P0 i) n := by
    intro i
    induction i with
    | zero => intro _; exact (Int32.zero_add _).symm
    | succ i ih =>
      intro hi
      rw [ih (by omega), zsw_up (q1_lt (T := T) (by omega)) (q1_new (by omega)), h i (by omega), ← Int32.add_assoc]
      rfl
  rw [key _ (Nat.le_refl _), zsw_0, Int32.add_zero]
  exact zcn_all (by rw [qP_cnt _ (Nat.le_refl _)]; omega)
theorem R_loss {G : zT} {n : Nat} {Q : Int32 → Prop} (hn : G 10 0 = nI n) (h8 : n ≤ 8) (h : Q (zsum (G 7) n)) : wp_X1_lossOfAll G Q := by
  have key : ∀ k i : Nat, i + k = n → wpl_X1_lossOfAll_4 G Q (k + 1) (zsum (G 7) i) (nI i) := by
    intro k
    induction k with
    | zero =>
      intro i hi
      have : i = n := by omega
      subst this
      exact zt (by rw [hn]; exact Int32.le_refl _) h
    | succ k ih =>
      intro i hi
      refine zf (by rw [hn]; exact nI_ge (by omega) (by omega)) (R_at rfl (show i < 8 by omega) (by decide) ?_)
      rintro _ rfl
      rintro _ rfl
      rw [show nI i + (1 : Int32) = nI (i + 1) from nI_1 i]
      exact ih (i + 1) (by omega)
  exact ⟨n + 1, key n 0 (by omega)⟩
theorem R_cnt {G : zT} {n : Nat} {Q : Int32 → Prop} (hn : G 10 0 = nI n) (h8 : n ≤ 8) (h : Q (zsum (fun w => if G 5 w < 0 then 0 else 1) n)) : wp_X1_countHeldFor G Q := by
  have key : ∀ k i : Nat, i + k = n → wpl_X1_countHeldFor_4 G Q (k + 1) (zsum (fun w => if G 5 w < 0 then 0 else 1) i) (nI i) := by
    intro k
    induction k with
    | zero =>
      intro i hi
      have : i = n := by omega
      subst this
      exact zt (by rw [hn]; exact Int32.le_refl _) h
    | succ k ih =>
      intro i hi
      have ih' := ih (i + 1) (by omega)
      refine zf (by rw [hn]; exact nI_ge (by omega) (by omega)) (R_at rfl (show i < 8 by omega) (by decide) ⟨fun c => ?_, fun c => ?_⟩)
      · rintro _ rfl
        rintro _ rfl
        rw [show nI i + (1 : Int32) = nI (i + 1) from nI_1 i]
        have e : zsum (fun w => if G 5 w < 0 then 0 else 1) (i + 1) = zsum (fun w => if G 5 w < 0 then 0 else 1) i + 0 := by
          show _ + (if G 5 i < 0 then 0 else 1) = _
          rw [if_pos c]
        rw [← e]
        exact ih'
      · rintro _ rfl
        rintro _ rfl
        rw [show nI i + (1 : Int32) = nI (i + 1) from nI_1 i]
        have e : zsum (fun w => if G 5 w < 0 then 0 else 1) (i + 1) = zsum (fun w => if G 5 w < 0 then 0 else 1) i + 1 := by
          show _ + (if G 5 i < 0 then 0 else 1) = _
          rw [if_neg c]
        rw [← e]
        exact ih'
  exact ⟨n + 1, key n 0 (by omega)⟩
theorem R_mx {G : zT} {n : Nat} {Q : Int32 → Prop} (hn : G 10 0 = nI n) (h8 : n ≤ 8) (h : Q (zmx (G 4) n)) : wp_X1_longestStand G Q := by
  have key : ∀ k i : Nat, i + k = n → wpl_X1_longestStand_4 G Q (k + 1) (zmx (G 4) i) (nI i) := by
    intro k
    induction k with
    | zero =>
      intro i hi
      have : i = n := by omega
      subst this
      exact zt (by rw [hn]; exact Int32.le_refl _) h
    | succ k ih =>
      intro i hi
      refine zf (by rw [hn]; exact nI_ge (by omega) (by omega)) (R_at rfl (show i < 8 by omega) (by decide) ?_)
      rintro _ rfl
      rintro _ rfl
      rw [show nI i + (1 : Int32) = nI (i + 1) from nI_1 i]
      exact ih (i + 1) (by omega)
  exact ⟨n + 1, key n 0 (by omega)⟩
theorem M_lossOf {T S : zT} {n w : Nat} {Q : Int32 → Prop} (R : TR T S) (hw : w < 8) (h : Q (tv T w 6 * (S 29 w + S 30 w) + S 32 w)) : wp_X5_lossOf S (nI w) Q := by
  refine ⟨zv8 hw, zv8 hw, zv8 hw, zv8 hw, ?_⟩
  rw [zcl (by omega), (R.2.1 w hw).2.2.2.2.2.2]
  exact h
theorem M_loss {T M S : zT} {n : Nat} {P0 : Nat → Bool} {Q : Int32 → Prop} (R : TR T S) (h8 : n ≤ 8) (h36 : S 36 0 = nI (zcn P0 n)) (hr : ∀ j : Nat, j < zcn P0 n → mRow T n P0 S j) (h : Q (zsum (qL T n P0) (zcn P0 n))) : wp_X5_lossOfAll S Q := by
  have hc := zcn_le P0 n
  have key : ∀ k i : Nat, i + k = zcn P0 n → wpl_X5_lossOfAll_4 S Q (k + 1) (zsum (qL T n P0) i) (nI i) := by
    intro k
    induction k with
    | zero =>
      intro i hi
      have : i = zcn P0 n := by omega
      subst this
      exact zt (by rw [h36]; exact Int32.le_refl _) h
    | succ k ih =>
      intro i hi
      have hrow := hr i (by omega)
      have hl : q1 T n P0 i < n := q1_lt (by omega)
      refine zf (by rw [h36]; exact nI_ge (by omega) (by omega)) ⟨zv8 (by omega), ?_⟩
      rw [zcl (by omega), hrow.1]
      refine M_lossOf (n := n) R (by omega) ?_
      rw [hrow.2.2.2.1, hrow.2.2.2.2.1, hrow.2.2.2.2.2.2]
      rintro _ rfl
      rintro _ rfl
      rw [show nI i + (1 : Int32) = nI (i + 1) from nI_1 i]
      exact ih (i + 1) (by omega)
  exact ⟨zcn P0 n + 1, key _ 0 (by omega)⟩
theorem M_cnt {S : zT} {n : Nat} {Q : Int32 → Prop} (hn : S 13 0 = nI n) (h8 : n ≤ 8) (h : Q (zsum (fun w => if S 31 w < 0 then 0 else 1) n)) : wp_X5_heldMany S Q := by
  have key : ∀ k i : Nat, i + k = n → wpl_X5_heldMany_4 S Q (k + 1) (zsum (fun w => if S 31 w < 0 then 0 else 1) i) (nI i) := by
    intro k
    induction k with
    | zero =>
      intro i hi
      have : i = n := by omega
      subst this
      exact zt (by rw [hn]; exact Int32.le_refl _) h
    | succ k ih =>
      intro i hi
      have ih' := ih (i + 1) (by omega)
      refine zf (by rw [hn]; exact nI_ge (by omega) (by omega)) ⟨zv8 (by omega), ?_⟩
      rw [zcl (by omega)]
      refine ⟨fun c => ?_, fun c => ?_⟩
      · rintro _ rfl
        rintro _ rfl
        rw [show nI i + (1 : Int32) = nI (i + 1) from nI_1 i]
        have e : zsum (fun w => if S 31 w < 0 then 0 else 1) (i + 1) = zsum (fun w => if S 31 w < 0 then 0 else 1) i + 0 := by
          show _ + (if S 31 i < 0 then 0 else 1) = _
          rw [if_pos c]
        rw [← e]
        exact ih'
      · rintro _ rfl
        rintro _ rfl
        rw [show nI i + (1 : Int32) = nI (i + 1) from nI_1 i]
        have e : zsum (fun w => if S 31 w < 0 then 0 else 1) (i + 1) = zsum (fun w => if S 31 w < 0 then 0 else 1) i + 1 := by
          show _ + (if S 31 i < 0 then 0 else 1) = _
          rw [if_neg c]
        rw [← e]
        exact ih'
  exact ⟨n + 1, key n 0 (by omega)⟩
/-- how long it stands open: till when, ahead of the i-th; how many seconds of it -/
def oT (T : zT) (n : Nat) (P0 : Nat → Bool) : Nat → Int32
  | 0 => 0
  | i + 1 => qC T n P0 i + qO T n P0 i + qS T n P0 i + T 0 0
def oV (T : zT) (n : Nat) (P0 : Nat → Bool) : Nat → Int32
  | 0 => 0
  | i + 1 => oV T n P0 i + (oT T n P0 (i + 1) - (if qC T n P0 i < oT T n P0 i then oT T n P0 i else qC T n P0 i))
theorem R_open {T G : zT} {n : Nat} {Q : Int32 → Prop} (h8 : n ≤ 8) (hG : zG T n G) (h : Q (oV T n P00 n)) : wp_X1_openSeconds G (T 0 0) Q := by
  have key : ∀ k i : Nat, i + k = n → wpl_X1_openSeconds_7 G (T 0 0) Q (k + 1) (oV T n P00 i) (oT T n P00 i) (nI i) := by
    intro k
    induction k with
    | zero =>
      intro i hi
      have : i = n := by omega
      subst this
      exact zt (by rw [hG.1]; exact Int32.le_refl _) h
    | succ k ih =>
      intro i hi
      have hrow := hG.2 i (by omega)
      have hl : q1 T n P00 i < n := q1_lt (by rw [zcn_f]; omega)
      refine zf (by rw [hG.1]; exact nI_ge (by omega) (by omega)) (R_at rfl (show i < 8 by omega) (by decide) ?_)
      rw [hrow.1]
      refine R_at rfl (show q1 T n P00 i < 8 by omega) (by decide) ?_
      rintro _ rfl
      refine R_at rfl (show q1 T n P00 i < 8 by omega) (by decide) (R_at rfl (show q1 T n P00 i < 8 by omega) (by decide) ?_)
      rintro _ rfl
      rintro _ rfl
      rintro _ rfl
      rw [hrow.2.1, hrow.2.2.1, hrow.2.2.2.2.1, show nI i + (1 : Int32) = nI (i + 1) from nI_1 i]
      exact ih (i + 1) (by omega)
  exact ⟨n + 1, key n 0 (by omega)⟩
theorem zadd3 (x b f c : Int32) : x + (b - f) + (c - b) = x + (c - f) := by
  rw [zeq]
  simp only [Int32.toInt_add, Int32.toInt_sub]
  simp only [Int.bmod_add_bmod, Int.add_bmod_bmod]
  congr 1
  omega
section VO
variable {T : zT} {n : Nat} {P0 : Nat → Bool}
def nC (T : zT) (n : Nat) (P0 : Nat → Bool) (i : Nat) : Nat := (qC T n P0 i).toNatClampNeg
def nO (T : zT) (n : Nat) (P0 : Nat → Bool) (i : Nat) : Nat := (qO T n P0 i).toNatClampNeg
def nS (T : zT) (n : Nat) (P0 : Nat → Bool) (i : Nat) : Nat := (qS T n P0 i).toNatClampNeg
theorem V_n (hV : zV T n) {i : Nat} (hi : i < zcn P0 n) : zSB T n P0 i (nC T n P0 i) (nO T n P0 i) (nS T n P0 i) := by
  obtain ⟨c, o, s, h⟩ := V_q (P0 := P0) hV i hi
  have h' := h
  have := zcn_le P0 n
  have := hV.2.1
  obtain ⟨ec, hc, eo, ho, es, hs⟩ := h
  have e1 : nC T n P0 i = c := by unfold nC; rw [ec]; exact zcl (by omega)
  have e2 : nO T n P0 i = o := by unfold nO; rw [eo]; exact zcl (by omega)
  have e3 : nS T n P0 i = s := by unfold nS; rw [es]; exact zcl (by omega)
  rw [e1, e2, e3]
  exact h'
end VO
theorem M_open {T M S : zT} {n : Nat} {P0 : Nat → Bool} {Q : Int32 → Prop} (hV : zV T n) (hS : zMG T n P0 M S) (h : Q (oV T n P0 (zcn P0 n))) : wp_X5_openSeconds S Q := by
  have hcn := zcn_le P0 n
  have h8 := hV.2.1
  obtain ⟨-, -, -, m, h37, a, a0, am, ha⟩ := hS
  obtain ⟨sh, esh, sh1, sh9⟩ : ∃ sh : Nat, T 0 0 = nI sh ∧ 1 ≤ sh ∧ sh ≤ 9 := by
    obtain ⟨-, -, ⟨d, hd, d0, d0', -⟩, -⟩ := hV
    exact ⟨d 0, hd 0 (by decide), d0, d0'⟩
  have hm : m ≤ zcn P0 n := zCh_le ⟨a, a0, am, ha⟩
  have mono : ∀ j : Nat, j ≤ m → ∀ k : Nat, j + k ≤ m → a j + k ≤ a (j + k) := by
    intro j hj k
    induction k with
    | zero => intro _; exact Nat.le_refl _
    | succ k ih =>
      intro q
      have h1 := ih (by omega)
      have h2 := (ha (j + k) (by omega)).1
      have e : a (j + (k + 1)) = a (j + k + 1) := rfl
      omega
  have ale : ∀ j : Nat, j ≤ m → a j ≤ zcn P0 n := by
    intro j hj
    have := mono j hj (m - j) (by omega)
    rw [show j + (m - j) = m by omega, am] at this
    omega
  -- till, in naturals
  have till : ∀ i : Nat, i < zcn P0 n → oT T n P0 (i + 1) = nI (nC T n P0 i + nO T n P0 i + nS T n P0 i + sh) := by
    intro i hi
    obtain ⟨ec, -, eo, -, es, -⟩ := V_n (P0 := P0) hV hi
    show qC T n P0 i + qO T n P0 i + qS T n P0 i + T 0 0 = _
    rw [ec, eo, es, esh, nI_add, nI_add, nI_add]
  -- one chain
  have chain : ∀ j : Nat, j < m → ∀ t : Nat, a j < t → t ≤ a (j + 1) → oV T n P0 t = oV T n P0 (a j) + (oT T n P0 t - (if qC T n P0 (a j) < oT T n P0 (a j) then oT T n P0 (a j) else qC T n P0 (a j))) ∧ nC T n P0 (a j) ≤ nC T n P0 (t - 1) := by
    intro j hj t
    induction t with
    | zero => intro h0; exact absurd h0 (Nat.not_lt_zero _)
    | succ t ih =>
      intro h1 h2
      rcases Nat.lt_or_ge (a j) t with q | q
      · obtain ⟨i1, i2⟩ := ih q (by omega)
        have hle := ale (j + 1) (by omega)
        have htn : t < zcn P0 n := by omega
        obtain ⟨u, eu⟩ : ∃ u : Nat, t = u + 1 := ⟨t - 1, by omega⟩
        subst eu
        have hun : u < zcn P0 n := by omega
        have hsb := V_n (P0 := P0) hV hun
        have hsb2 := V_n (P0 := P0) hV htn
        have hpos := (ha j hj).2.2.2.1 u (by omega) (by omega)
        have hord := V_ord hV htn hsb hsb2
        have sp : 0 < nS T n P0 u := by
          obtain ⟨-, -, -, -, es, hs⟩ := hsb
          rw [es] at hpos
          exact (nI_ltI (a := 0) (by omega) (by omega)).mp hpos
        have hc2 := (hord.2 sp).1
        have hlt : qC T n P0 (u + 1) < oT T n P0 (u + 1) := by
          rw [till u hun, hsb2.1, hc2]
          obtain ⟨-, hc, -, ho, -, hs⟩ := hsb
          exact (nI_ltI (by omega) (by omega)).mpr (by omega)
        refine ⟨?_, ?_⟩
        · show oV T n P0 (u + 1) + (oT T n P0 (u + 1 + 1) - (if qC T n P0 (u + 1) < oT T n P0 (u + 1) then oT T n P0 (u + 1) else qC T n P0 (u + 1))) = _
          rw [if_pos hlt, i1, zadd3]
        · show _ ≤ nC T n P0 (u + 1)
          have : u + 1 - 1 = u := rfl
          rw [this] at i2
          omega
      · have : t = a j := by omega
        subst this
        exact ⟨rfl, Nat.le_refl _⟩
  have key : ∀ k i : Nat, i + k = m → wpl_X5_openSeconds_6 S Q (k + 1) (oV T n P0 (a i)) (oT T n P0 (a i)) (nI i) := by
    intro k
    induction k with
    | zero =>
      intro i hi
      have : i = m := by omega
      subst this
      refine zt (by rw [h37]; exact Int32.le_refl _) ?_
      rw [am]
      exact h
    | succ k ih =>
      intro i hi
      have him : i < m := by omega
      have ci : (nI i).toNatClampNeg = i := zcl (by omega)
      obtain ⟨b1, b2, b3, b4, b5⟩ := ha i him
      have hle := ale (i + 1) (by omega)
      obtain ⟨ch1, ch2⟩ := chain i him (a (i + 1)) b1 (Nat.le_refl _)
      obtain ⟨u, eu⟩ : ∃ u : Nat, a (i + 1) = u + 1 := ⟨a (i + 1) - 1, by omega⟩
      have e34 : S 34 i = oT T n P0 (a (i + 1)) := by
        rw [b3, eu]
        show qC T n P0 u + qO T n P0 u + T 0 0 = qC T n P0 u + qO T n P0 u + qS T n P0 u + T 0 0
        rw [eu] at b5
        rw [show qS T n P0 u = 0 from b5, Int32.add_zero]
      have hun : u < zcn P0 n := by omega
      have hstart : a i < zcn P0 n := by omega
      have hsbu := V_n (P0 := P0) hV hun
      have hsba := V_n (P0 := P0) hV hstart
      have etu := till u hun
      have ih' := ih (i + 1) (by omega)
      have ni : nI i + (1 : Int32) = nI (i + 1) := nI_1 i
      rw [eu] at ch2
      have ch2' : nC T n P0 (a i) ≤ nC T n P0 u := ch2
      -- till ahead of the chain
      have hprev : ∃ p : Nat, oT T n P0 (a i) = nI p ∧ p ≤ nC T n P0 (a i) + sh := by
        cases e : a i with
        | zero => exact ⟨0, rfl, by omega⟩
        | succ v =>
          have hv : v < zcn P0 n := by omega
          refine ⟨_, till v hv, ?_⟩
          have hv1 : v + 1 < zcn P0 n := by omega
          have := (V_ord hV hv1 (V_n (P0 := P0) hV hv) (V_n (P0 := P0) hV hv1)).1
          omega
      obtain ⟨p, ep, hp⟩ := hprev
      have bu : nC T n P0 u ≤ 139 + 51 * u ∧ nO T n P0 u ≤ 11 ∧ nS T n P0 u ≤ 40 := ⟨hsbu.2.1, hsbu.2.2.2.1, hsbu.2.2.2.2.2⟩
      refine zf (by rw [h37]; exact nI_ge him (by omega)) ⟨zv8 (by omega), ?_⟩
      rw [ci, b2]
      have tail : ∀ fr : Int32, fr = (if qC T n P0 (a i) < oT T n P0 (a i) then oT T n P0 (a i) else qC T n P0 (a i)) → wpb_X5_openSeconds_34 S Q (fun x1 x2 x3 => wpl_X5_openSeconds_6 S Q (k + 1) x1 x2 x3) (oV T n P0 (a i)) (oT T n P0 (a i)) (nI i) fr := by
        intro fr hfr
        rw [← hfr] at ch1
        refine ⟨zv8 (by omega), ?_⟩
        rw [ci, e34]
        refine ⟨fun c => ⟨zv8 (by omega), ?_⟩, fun c => ?_⟩
        · rintro _ rfl
          refine ⟨zv8 (by omega), ?_⟩
          rintro _ rfl
          rintro _ rfl
          rw [ni, ← ch1]
          exact ih'
        · rintro _ rfl
          rw [ni]
          -- nothing is added: the chain ends where the last one did
          have eq : fr = oT T n P0 (a (i + 1)) ∧ oT T n P0 (a i) = oT T n P0 (a (i + 1)) := by
            rw [eu, etu, ep] at *
            rw [hsba.1] at hfr
            by_cases z : nI (nC T n P0 (a i)) < nI p
            · rw [if_pos z] at hfr
              rw [hfr, nI_ltI (by omega) (by omega)] at c
              have e : p = nC T n P0 u + nO T n P0 u + nS T n P0 u + sh := by omega
              rw [hfr, e]
              exact ⟨rfl, rfl⟩
            · rw [if_neg z] at hfr
              rw [hfr, nI_ltI (by omega) (by omega)] at c
              omega
          have e2 : oV T n P0 (a (i + 1)) = oV T n P0 (a i) := by
            rw [ch1, eq.1]
            rw [show oT T n P0 (a (i + 1)) - oT T n P0 (a (i + 1)) = 0 from Int32.sub_self _, Int32.add_zero]
          rw [eq.2, ← e2]
          exact ih'
      refine ⟨fun c => tail _ ?_, fun c => ⟨zv8 (by omega), tail _ ?_⟩⟩
      · by_cases z : qC T n P0 (a i) < oT T n P0 (a i)
        · rw [if_pos z]
        · rw [if_neg z]
          rw [zlt] at z
          rw [zle] at c
          rw [zeq]
          omega
      · rw [if_neg]
        intro z
        apply c
        rw [zlt] at z
        rw [zle]
        omega
  have := key m 0 (by omega)
  rw [a0] at this
  exact ⟨m + 1, this⟩

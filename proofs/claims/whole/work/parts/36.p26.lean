/-! the class reads a way, and brings it in -/
section WC
variable {L : zT} {c : Nat}
theorem R_asmA {S : zT} {i1 i2 : Int32} {Q : Int32 → Prop} (q0 : Q 0) (q1 : Q 1) : wp_X2_isAsItMustBe S i1 i2 Q := by
  refine ⟨fun _ => R_at (j := 0) rfl (by decide) (by decide) ⟨fun _ => q0, fun _ => q1⟩, fun _ => ⟨fun _ => R_at (j := 0) rfl (by decide) (by decide) ⟨fun _ => zt rfl q0, fun _ => ⟨fun _ => zt rfl q0, fun _ => zf (by decide) (R_at (j := 1) rfl (by decide) (by decide) ⟨fun _ => q0, fun _ => q1⟩)⟩⟩, fun _ => ⟨fun _ => q0, fun _ => R_at (j := 2) rfl (by decide) (by decide) ⟨fun _ => q0, fun _ => R_at (j := 2) rfl (by decide) (by decide) ⟨fun _ => q0, fun _ => R_at (j := 3) rfl (by decide) (by decide) ⟨fun _ => q0, fun _ => R_at (j := 3) rfl (by decide) (by decide) ⟨fun _ => q0, fun _ => R_at (j := 4) rfl (by decide) (by decide) ⟨fun _ => q0, fun _ => R_at (j := 5) rfl (by decide) (by decide) ⟨fun _ => zf (by decide) q1, fun _ => ⟨fun _ => zf (by decide) q1, fun _ => zt rfl q0⟩⟩⟩⟩⟩⟩⟩⟩⟩⟩
theorem R_asm {S : zT} {p w : Nat} {x2 : Int32} {Q : Int32 → Prop} (ok : (stR (zch L c) p).2 = true) (hN : ∀ i : Nat, i < zcnt (zch L c p) → S 4 i = stN (zch L c) p i) (hw : x2 = nI w) (h8 : w ≤ 8) (q1 : gd (zch L c) w p → Q 1) (q0 : ¬ gd (zch L c) w p → Q 0) : wp_X2_isAsItMustBe S (zch L c p) x2 Q := by
  obtain ⟨nd, nc, nww⟩ := stN_n ok
  rcases stR_s ok with e | e | e
  · rw [zcnt_d e] at hN
    rw [gd_d e] at q1 q0
    refine zt e (R_at (j := 0) rfl (by decide) (by decide) ?_)
    rw [hN 0 (by decide)]
    exact ⟨fun a => q0 (fun z => z a), fun a => q1 a⟩
  · rw [zcnt_c e] at hN
    rw [gd_c e] at q1 q0
    refine zf (by rw [e]; decide) (zt e (R_at (j := 0) rfl (by decide) (by decide) ?_))
    rw [hN 0 (by decide)]
    obtain ⟨⟨d, hd, ed⟩, -⟩ := nc e
    refine zf (by rw [ed]; exact nI_pos (by omega)) ⟨fun a => zt rfl (q0 (fun z => z.1 a)), fun a => zf (by decide) (R_at (j := 1) rfl (by decide) (by decide) ?_)⟩
    rw [hN 1 (by decide)]
    exact ⟨fun b => q0 (fun z => z.2 b), fun b => q1 ⟨a, b⟩⟩
  · rw [zcnt_w e] at hN
    rw [gd_w e] at q1 q0
    have a2 : ∀ {Q : Int32 → Prop}, Q (stN (zch L c) p 2) → wp_X4_at 7 (S 4) 2 Q := fun q => R_at (j := 2) rfl (by decide) (by decide) (by rw [hN 2 (by decide)]; exact q)
    have a3 : ∀ {Q : Int32 → Prop}, Q (stN (zch L c) p 3) → wp_X4_at 7 (S 4) 3 Q := fun q => R_at (j := 3) rfl (by decide) (by decide) (by rw [hN 3 (by decide)]; exact q)
    have a4 : ∀ {Q : Int32 → Prop}, Q (stN (zch L c) p 4) → wp_X4_at 7 (S 4) 4 Q := fun q => R_at (j := 4) rfl (by decide) (by decide) (by rw [hN 4 (by decide)]; exact q)
    have a5 : ∀ {Q : Int32 → Prop}, Q (stN (zch L c) p 5) → wp_X4_at 7 (S 4) 5 Q := fun q => R_at (j := 5) rfl (by decide) (by decide) (by rw [hN 5 (by decide)]; exact q)
    refine zf (by rw [e]; decide) (zf (by rw [e]; decide) ⟨fun g => ?_, fun g => a2 ⟨fun g2 => ?_, fun g2 => a2 ⟨fun g3 => ?_, fun g3 => a3 ⟨fun g4 => ?_, fun g4 => a3 ⟨fun g5 => ?_, fun g5 => a4 ⟨fun g6 => ?_, fun g6 => a5 ⟨fun g7 => zf (by decide) ?_, fun g7 => ⟨fun g8 => zf (by decide) ?_, fun g8 => zt rfl ?_⟩⟩⟩⟩⟩⟩⟩⟩)
    · rw [hw] at g
      exact q0 (fun z => nI_ge (a := w) (b := 8) z.1 (by omega) g)
    · exact q0 (fun z => z.2.1 g2)
    · exact q0 (fun z => z.2.2.1 g3)
    · exact q0 (fun z => z.2.2.2.1 g4)
    · exact q0 (fun z => z.2.2.2.2.1 g5)
    · exact q0 (fun z => z.2.2.2.2.2.1 g6)
    · have w8 : w < 8 := by
        rcases Nat.lt_or_ge w 8 with z | z
        · exact z
        · exact absurd (by rw [hw]; exact nI_le (a := 8) (b := w) z (by omega)) g
      exact q1 ⟨w8, g2, g3, g4, g5, g6, Or.inl g7⟩
    · have w8 : w < 8 := by
        rcases Nat.lt_or_ge w 8 with z | z
        · exact z
        · exact absurd (by rw [hw]; exact nI_le (a := 8) (b := w) z (by omega)) g
      exact q1 ⟨w8, g2, g3, g4, g5, g6, Or.inr g8⟩
    · exact q0 (fun z => z.2.2.2.2.2.2.elim g7 g8)
def xo : Option Nat → Int32
  | none => -9
  | some q => nI q
/-- the fault of a way, as it is answered -/
def ansF (r : Nat × Bool) (o : Option Nat) : Int32 := if r.2 = true then (match o with | none => 0 | some q => -2000 - nI q) else -1000 - nI r.1
def orW (o o2 : Option Nat) : Option Nat := match o with | none => o2 | some q => some q
theorem nw_8 {ch : Nat → Int32} {w p : Nat} (h : gd ch w p) (h8 : w ≤ 8) : nw ch w p ≤ 8 := by
  unfold nw
  by_cases e : ch p = 119
  · rw [if_pos e]
    have := ((gd_w e).mp h).1
    omega
  · rw [if_neg e]; exact h8
theorem R_95 {So1 S : zT} {r : Nat × Bool} {o : Option Nat} {Q : Int32 → zT → Prop} (h : zst L c S r) (ho : ∀ q : Nat, o = some q → q < 1000) (q : Q (ansF r o) S) : wpb_X2_findFault_95 So1 Q (xo o) S := by
  unfold wpb_X2_findFault_95
  by_cases z : r.2 = true
  · refine zt (zst_0 h z) ?_
    unfold ansF at q
    rw [if_pos z] at q
    cases o with
    | none => exact zf (by decide) q
    | some k => exact zt (nI_le (a := 0) (b := k) (by omega) (by have := ho k rfl; omega)) q
  · refine zf (zst_1 h z) ?_
    unfold ansF at q
    rw [if_neg z] at q
    rw [h.2.2.1]
    exact q
theorem R_ff {So1 : zT} {Q : Int32 → zT → Prop} (hc : c ≤ 80) (hv : ∀ i : Nat, i < c → ∃ v : Nat, v < 256 ∧ L 0 i = nI v) :
    ∀ (f n p w : Nat) (o : Option Nat) (x2 : Int32) (S : zT), c < p + f → n ≤ p → (p < c ∨ n = 0) → zst L c S (p, true) → (o = none → x2 = nI w ∧ w ≤ 8) → (∀ q : Nat, o = some q → q ≤ c) →
      (∀ S' : zT, zst L c S' (stL (zch L c) c f p).2 → Q (ansF (stL (zch L c) c f p).2 (orW o (fw (zch L c) (stL (zch L c) c f p).1 w))) S') → wpl_X2_findFault_15 So1 Q (f + 1) x2 (xo o) (nI n) S := by
  intro f
  induction f with
  | zero =>
    intro n p w o x2 S h1 _ h3 h4
    have := h4.2.2.2.1
    have : p ≤ c := this
    omega
  | succ f ih =>
    intro n p w o x2 S h1 h2 h3 h4 h5 h6 hQ
    have hpc : p ≤ c := h4.2.2.2.1
    have key : wpb_X2_findFault_45 So1 Q (wpl_X2_findFault_15 So1 Q (f + 1)) x2 (xo o) (nI n) S := by
      unfold wpb_X2_findFault_45
      rintro _ rfl
      rw [show S 2 0 = nI p from h4.2.2.1]
      refine R_stm hc hv h4 (fun S' g1 g2 => ?_)
      have s74 : ∀ o' : Option Nat, (∀ q : Nat, o' = some q → q ≤ c) → ((stR (zch L c) p).2 = true → (o' = none → o = none ∧ gd (zch L c) w p) ∧ (∀ q : Nat, o' = some q → o = some q ∨ (o = none ∧ ¬ gd (zch L c) w p ∧ q = p))) → wpb_X2_findFault_74 So1 Q (wpl_X2_findFault_15 So1 Q (f + 1)) x2 (xo o') (nI n) (zch L c p) S' := by
        intro o' ho ho2
        have go : ∀ x2' : Int32, (o' = none → (stR (zch L c) p).2 = true → x2' = nI (nw (zch L c) w p)) → wpl_X2_findFault_15 So1 Q (f + 1) x2' (xo o') (nI (n + 1)) S' := by
          intro x2' hx
          by_cases k : (stR (zch L c) p).2 = true
          · obtain ⟨u1, u2⟩ := stR_up k
            obtain ⟨w1, w2⟩ := ho2 k
            have fwo : ∀ l : List Nat, orW o (fw (zch L c) (p :: l) w) = orW o' (fw (zch L c) l (nw (zch L c) w p)) := by
              intro l
              cases o' with
              | none =>
                obtain ⟨y1, y2⟩ := w1 rfl
                rw [y1, fw_y y2]
              | some q =>
                rcases w2 q rfl with y | ⟨y1, y2, y3⟩
                · rw [y]; rfl
                · rw [y1, fw_n y2, y3]; rfl
            by_cases k2 : (stR (zch L c) p).1 < c
            · rw [stL_m k k2] at hQ
              refine ih (n + 1) (stR (zch L c) p).1 (nw (zch L c) w p) o' x2' S' (by omega) (by omega) (Or.inl k2) (by rw [← k]; exact g1) (fun y => ⟨hx y k, ?_⟩) ho (fun A hA => ?_)
              · obtain ⟨y1, y2⟩ := w1 y
                exact nw_8 y2 (h5 y1).2
              · rw [← fwo]
                exact hQ A hA
            · rw [stL_e k k2] at hQ
              have fin := R_95 (So1 := So1) (Q := Q) (o := o') g1 (fun q hq => by have := ho q hq; omega) (by
                have := hQ S' g1
                rw [fwo] at this
                cases o' with
                | none => exact this
                | some q => exact this)
              refine ⟨fun _ => fin, fun _ => zt (zst_0 g1 k) (zf (fun z => ?_) (zt ?_ fin))⟩
              · exact nI_ne0 (n := n + 1) (by omega) (by omega) z
              · rw [g1.2.1, g1.2.2.1]
                exact nI_le (by omega) (by omega)
          · rw [stL_f k] at hQ
            have fin := R_95 (So1 := So1) (Q := Q) (o := o') g1 (fun q hq => by have := ho q hq; omega) (by
              have := hQ S' g1
              unfold ansF at this ⊢
              rw [if_neg k] at this ⊢
              exact this)
            exact ⟨fun _ => fin, fun _ => zf (zst_1 g1 k) fin⟩
        unfold wpb_X2_findFault_74
        refine ⟨fun e => ?_, fun e => ?_⟩
        · unfold wpb_X2_findFault_87
          rintro _ rfl _ rfl
          rw [show nI n + (1 : Int32) = nI (n + 1) from nI_1 n]
          refine go _ (fun y k => ?_)
          obtain ⟨y1, -⟩ := (ho2 k).1 y
          rw [(h5 y1).1]
          unfold nw
          rw [if_pos e, nI_1]
        · unfold wpb_X2_findFault_87
          rintro _ rfl _ rfl
          rw [show nI n + (1 : Int32) = nI (n + 1) from nI_1 n]
          refine go _ (fun y k => ?_)
          obtain ⟨y1, -⟩ := (ho2 k).1 y
          rw [(h5 y1).1]
          unfold nw
          rw [if_neg e, Int32.add_zero]
      cases o with
      | some q =>
        have := h6 q rfl
        exact zt (nI_le (a := 0) (b := q) (by omega) (by omega)) (s74 (some q) h6 (fun _ => ⟨fun y => (by cases y), fun q' y => Or.inl y⟩))
      | none =>
        obtain ⟨x2e, w8⟩ := h5 rfl
        refine zf (by decide) ?_
        by_cases k : (stR (zch L c) p).2 = true
        · refine R_asm k (g2 k) x2e w8 (fun g => zf (by decide) (s74 none (fun q y => by cases y) (fun _ => ⟨fun _ => ⟨rfl, g⟩, fun q y => (by cases y)⟩))) (fun g => zt rfl (s74 (some p) (fun q y => by cases y; exact hpc) (fun _ => ⟨fun y => (by cases y), fun q y => Or.inr ⟨rfl, g, (Option.some.inj y).symm⟩⟩)))
        · exact R_asmA (zt rfl (s74 (some p) (fun q y => by cases y; exact hpc) (fun a => absurd a k))) (zf (by decide) (s74 none (fun q y => by cases y) (fun a => absurd a k)))
    have h80 : n < 80 := by omega
    refine zf (nI_ge (a := n) (b := 80) h80 (by omega)) (zt (zst_0 h4 rfl) ⟨fun _ => key, fun hn => zf ?_ key⟩)
    have : n ≠ 0 := fun z => hn (by rw [z]; rfl)
    rw [h4.2.1, h4.2.2.1]
    exact nI_ge (by show p < c; omega) (by omega)
/-- what a statement does to what is told -/
def apR (ch : Nat → Int32) (w p : Nat) (T T' : zT) : Prop := (∀ k : Nat, k < 5 → T' 0 k = if ch p = 100 then (if k < 3 then stN ch p k else T 0 k) else if ch p = 99 then (if k = 4 then stN ch p 0 else if k = 3 then stN ch p 1 else T 0 k) else T 0 k) ∧ (∀ u : Nat, u < 8 → ∀ j : Nat, j < 7 → tv T' u j = if ch p = 119 ∧ u = w then stN ch p j else tv T u j) ∧ T' 2 0 = nI (nw ch w p)
def apL (ch : Nat → Int32) : List Nat → Nat → zT → zT → Prop
  | [], _, T, T' => T' = T
  | p :: l, w, T, T' => ∃ T1 : zT, apR ch w p T T1 ∧ apL ch l (nw ch w p) T1 T'
theorem R_addW {T : zT} {w : Nat} {f : Nat → Int32} {Q : zT → Prop} (hT : T 2 0 = nI w) (h8 : w < 8) (q : ∀ T' : zT, T' 0 = T 0 → (∀ u : Nat, u < 8 → ∀ j : Nat, j < 7 → tv T' u j = if u = w then f j else tv T u j) → T' 2 0 = nI (w + 1) → Q T') : wp_X3_addWalker 7 f T Q := by
  have key : ∀ (x k : Nat) (A : zT), k + x = 7 → A 0 = T 0 → A 2 = T 2 → (∀ u : Nat, u < 8 → ∀ j : Nat, j < 7 → tv A u j = if u = w ∧ j < k then f j else tv T u j) → wpl_X3_addWalker_11 7 f Q (x + 1) (nI k) A := by
    intro x
    induction x with
    | zero =>
      intro k A hk h0 h2 h3
      obtain rfl : k = 7 := by omega
      refine zt (Int32.le_refl _) ?_
      unfold wpb_X3_addWalker_37
      rintro _ rfl
      refine q _ (by rw [va_up_ne _ _ (by decide), h0]) (fun u hu j hj => ?_) (by rw [va_up_self, h2, hT, nI_1])
      have := h3 u hu j hj
      by_cases z : u = w
      · rw [if_pos ⟨z, hj⟩] at this
        rw [if_pos z]
        exact this
      · rw [if_neg (fun y => z y.1)] at this
        rw [if_neg z]
        exact this
    | succ x ih =>
      intro k A hk h0 h2 h3
      refine zf (nI_ge (b := 7) (by omega) (by omega)) (R_at rfl (show k < 7 by omega) (by decide) (R_tell (w := w) (k := k) (by rw [h2, hT]) rfl h8 (by omega) ?_))
      rintro _ rfl
      rw [show nI k + (1 : Int32) = nI (k + 1) from nI_1 k]
      refine ih (k + 1) _ (by omega) (by rw [va_up_ne _ _ (by decide), h0]) (by rw [va_up_ne _ _ (by decide), h2]) (fun u hu j hj => ?_)
      rw [tv_tell (by omega) hj, h3 u hu j hj]
      by_cases z : u = w
      · by_cases y : j = k
        · rw [if_pos ⟨z, y⟩, if_pos ⟨z, by omega⟩, y]
        · rw [if_neg (fun a => y a.2)]
          by_cases y2 : j < k
          · rw [if_pos ⟨z, y2⟩, if_pos ⟨z, by omega⟩]
          · rw [if_neg (fun a => y2 a.2), if_neg (fun a => y2 (by omega))]
      · rw [if_neg (fun a => z a.1), if_neg (fun a => z a.1), if_neg (fun a => z a.1)]
  refine zf (by rw [hT]; exact nI_ge (b := 8) h8 (by omega)) ⟨8, key 7 0 T (by omega) rfl rfl (fun u hu j hj => ?_)⟩
  rw [if_neg (by omega)]
theorem R_bst {A T : zT} {p w : Nat} {Q : zT → Prop} (ok : (stR (zch L c) p).2 = true) (hN : ∀ i : Nat, i < zcnt (zch L c p) → A 4 i = stN (zch L c) p i) (hT : T 2 0 = nI w) (g : gd (zch L c) w p) (q : ∀ T' : zT, apR (zch L c) w p T T' → Q T') : wp_X2_bringStatement A (zch L c p) T Q := by
  rcases stR_s ok with e | e | e
  · rw [zcnt_d e] at hN
    refine zt e (R_at (j := 0) rfl (by decide) (by decide) (R_chg (k := 0) rfl (by decide) (R_at (j := 1) rfl (by decide) (by decide) (R_chg (k := 1) rfl (by decide) (R_at (j := 2) rfl (by decide) (by decide) (R_chg (k := 2) rfl (by decide) (q _ ⟨fun k hk => ?_, fun u hu j hj => ?_, ?_⟩)))))))
    · rw [if_pos e, hN 0 (by decide), hN 1 (by decide), hN 2 (by decide)]
      show upd (upd (upd (T 0) 0 _) 1 _) 2 _ k = _
      rcases (show k = 0 ∨ k = 1 ∨ k = 2 ∨ 3 ≤ k by omega) with z | z | z | z
      · subst z; rw [if_pos (by decide), pk_un (by decide), pk_un (by decide), pk_us]
      · subst z; rw [if_pos (by decide), pk_un (by decide), pk_us]
      · subst z; rw [if_pos (by decide), pk_us]
      · rw [if_neg (by omega), pk_un (by omega), pk_un (by omega), pk_un (by omega)]
    · rw [if_neg (fun z => by rw [e] at z; exact absurd z.1 (by decide))]
      rfl
    · unfold nw
      rw [if_neg (by rw [e]; decide)]
      exact hT
  · rw [zcnt_c e] at hN
    refine zf (by rw [e]; decide) (zt e (R_at (j := 0) rfl (by decide) (by decide) (R_chg (k := 4) rfl (by decide) (R_at (j := 1) rfl (by decide) (by decide) (R_chg (k := 3) rfl (by decide) (q _ ⟨fun k hk => ?_, fun u hu j hj => ?_, ?_⟩))))))
    · rw [if_neg (by rw [e]; decide), if_pos e, hN 0 (by decide), hN 1 (by decide)]
      show upd (upd (T 0) 4 _) 3 _ k = _
      rcases (show k = 4 ∨ k = 3 ∨ k < 3 by omega) with z | z | z
      · subst z; rw [if_pos rfl, pk_un (by decide), pk_us]
      · subst z; rw [if_neg (by decide), if_pos rfl, pk_us]
      · rw [if_neg (by omega), if_neg (by omega), pk_un (by omega), pk_un (by omega)]
    · rw [if_neg (fun z => by rw [e] at z; exact absurd z.1 (by decide))]
      rfl
    · unfold nw
      rw [if_neg (by rw [e]; decide)]
      exact hT
  · rw [zcnt_w e] at hN
    have w8 := ((gd_w e).mp g).1
    refine zf (by rw [e]; decide) (zf (by rw [e]; decide) (R_addW hT w8 (fun T' t0 t1 t2 => q T' ⟨fun k hk => ?_, fun u hu j hj => ?_, ?_⟩)))
    · rw [if_neg (by rw [e]; decide), if_neg (by rw [e]; decide), t0]
    · rw [t1 u hu j hj]
      by_cases z : u = w
      · rw [if_pos z, if_pos ⟨e, z⟩, hN j hj]
      · rw [if_neg z, if_neg (fun y => z y.2)]
    · unfold nw
      rw [if_pos e]
      exact t2
theorem R_bi {Q : Int32 → zT → zT → Prop} (hc : c ≤ 80) (hv : ∀ i : Nat, i < c → ∃ v : Nat, v < 256 ∧ L 0 i = nI v) :
    ∀ (f n p w : Nat) (S T : zT), c < p + f → n ≤ p → p < c → zst L c S (p, true) → T 2 0 = nI w → w ≤ 8 → (stL (zch L c) c f p).2.2 = true → fw (zch L c) (stL (zch L c) c f p).1 w = none →
      (∀ S' T' : zT, zst L c S' (stL (zch L c) c f p).2 → apL (zch L c) (stL (zch L c) c f p).1 w T T' → Q (nI (n + (stL (zch L c) c f p).1.length)) S' T') → wpl_X2_bringInto_8 Q (f + 1) (nI n) (nI n) S T := by
  intro f
  induction f with
  | zero =>
    intro n p w S T h1 _ h3
    omega
  | succ f ih =>
    intro n p w S T h1 h2 h3 h4 h5 h6 h7 h8 hQ
    refine zf (nI_ge (a := n) (b := 80) (by omega) (by omega)) (zt (zst_0 h4 rfl) (zf ?_ (R_stm hc hv h4 (fun S' g1 g2 => ?_))))
    · rw [h4.2.1, h4.2.2.1]
      exact nI_ge (show p < c from h3) (by omega)
    have k : (stR (zch L c) p).2 = true := by
      by_cases k : (stR (zch L c) p).2 = true
      · exact k
      · rw [stL_f k] at h7; exact absurd h7 k
    obtain ⟨u1, u2⟩ := stR_up k
    have g : gd (zch L c) w p := by
      by_cases g : gd (zch L c) w p
      · exact g
      · by_cases k2 : (stR (zch L c) p).1 < c
        · rw [stL_m k k2] at h8
          rw [fw_n g] at h8; cases h8
        · rw [stL_e k k2] at h8
          rw [fw_n g] at h8; cases h8
    refine R_bst k (g2 k) h5 g (fun T1 hT1 => ?_)
    rintro _ rfl _ rfl
    rw [show nI n + (1 : Int32) = nI (n + 1) from nI_1 n]
    by_cases k2 : (stR (zch L c) p).1 < c
    · rw [stL_m k k2] at h7 h8 hQ
      rw [fw_y g] at h8
      refine ih (n + 1) (stR (zch L c) p).1 (nw (zch L c) w p) S' T1 (by omega) (by omega) k2 (by rw [← k]; exact g1) hT1.2.2 (nw_8 g h6) h7 h8 (fun A B hA hB => ?_)
      have := hQ A B hA ⟨T1, hT1, hB⟩
      rw [show n + 1 + (stL (zch L c) c f (stR (zch L c) p).1).1.length = n + (p :: (stL (zch L c) c f (stR (zch L c) p).1).1).length by rw [List.length_cons]; omega]
      exact this
    · rw [stL_e k k2] at hQ
      have := hQ S' T1 g1 ⟨T1, hT1, rfl⟩
      refine ⟨fun _ => this, fun _ => zt (zst_0 g1 k) (zt ?_ this)⟩
      rw [g1.2.1, g1.2.2.1]
      exact nI_le (by omega) (by omega)
end WC

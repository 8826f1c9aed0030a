/-! walkers by seeds -/
def lot (y : Int32) : Int32 := y * 1664525 + 1013904223
def lk (y : Int32) : Int32 := (y &&& 2147483647) / 256 - (y &&& 2147483647) / 256 / 2 * 2
theorem lk_01 (y : Int32) : ∃ a : Nat, a ≤ 1 ∧ lk y = nI a := by
  obtain ⟨j, hj, e⟩ := pk_andE y (m := 2147483647) 31 (by decide)
  unfold lk
  rw [e, show (256 : Int32) = nI 256 from rfl, show (2 : Int32) = nI 2 from rfl, pk_div hj (by decide) (by decide), pk_rem (a := j / 256) (by omega) (by decide) (by decide)]
  exact ⟨j / 256 % 2, by omega, rfl⟩
def zlots (z : Int32) : Nat → Int32
  | 0 => z
  | m + 1 => lot (zlots z m)
def zSd (N : zT) (z : Int32) (n k : Nat) : zT := va_up N 1 (fun p => if p % 7 = 5 ∧ p / 7 < n then lk (zlots z (k * n + p / 7 + 1)) else N 1 p)
theorem zSd_tv {N : zT} {z : Int32} {n k w j : Nat} (hj : j < 7) : tv (zSd N z n k) w j = if j = 5 ∧ w < n then lk (zlots z (k * n + w + 1)) else tv N w j := by
  show (if (w * 7 + j) % 7 = 5 ∧ (w * 7 + j) / 7 < n then lk (zlots z (k * n + (w * 7 + j) / 7 + 1)) else N 1 (w * 7 + j)) = _
  rw [show (w * 7 + j) % 7 = j by omega, show (w * 7 + j) / 7 = w by omega]
  rfl
theorem zSd_V {N : zT} {z : Int32} {n k : Nat} (hV : zV N n) : zV (zSd N z n k) n := by
  obtain ⟨a1, a2, a3, a4⟩ := hV
  refine ⟨a1, a2, a3, fun w hw => ?_⟩
  obtain ⟨a, ha, b0, b1, b2, b3, b4, b5, b6, b7, b8⟩ := a4 w hw
  obtain ⟨l, hl, el⟩ := lk_01 (zlots z (k * n + w + 1))
  refine ⟨fun j => if j = 5 then l else a j, fun j hj => ?_, b0, b1, b2, b3, b4, b5, b6, hl, b8⟩
  rw [zSd_tv hj]
  show _ = nI (if j = 5 then l else a j)
  by_cases c : j = 5
  · rw [if_pos ⟨c, hw⟩, if_pos c, el]
  · rw [if_neg (fun q => c q.1), if_neg c, ha j hj]
def cH (T : zT) (n : Nat) : Int32 := zsum (fun j => if qB T n P00 j < 0 then 0 else 1) n
theorem cH_cong {A B : zT} {n : Nat} (h : TEq A B) (h8 : n ≤ 8) : cH A n = cH B n := zsum_cong (fun j _ => by unfold qB; rw [(zq_cong h h8 j).1])
theorem cH_G {T G : zT} {n : Nat} (hG : zG T n G) : zsum (fun w => if G 5 w < 0 then 0 else 1) n = cH T n := by
  rw [← zsw_f]
  have e := zsw_q (T := T) (n := n) (P0 := P00) (f := fun w => if G 5 w < 0 then 0 else 1) (g := fun j => if qB T n P00 j < 0 then 0 else 1) (fun j hj => by
    show (if G 5 (q1 T n P00 j) < 0 then (0 : Int32) else 1) = _
    rw [(hG.2 j (by rw [zcn_f] at hj; exact hj)).2.2.2.2.2.1])
  rw [e, zcn_f]
  rfl
theorem cH_M {T M S : zT} {n : Nat} (hS : zMG T n P00 M S) : zsum (fun w => if S 31 w < 0 then 0 else 1) n = cH T n := by
  rw [← zsw_f]
  have e := zsw_q (T := T) (n := n) (P0 := P00) (f := fun w => if S 31 w < 0 then 0 else 1) (g := fun j => if qB T n P00 j < 0 then 0 else 1) (fun j hj => by
    show (if S 31 (q1 T n P00 j) < 0 then (0 : Int32) else 1) = _
    rw [(hS.2.2.1 j hj).2.2.2.2.2.1])
  rw [e, zcn_f]
  rfl
theorem R_tell {T : zT} {w k : Nat} {i q v : Int32} {Q : zT → Prop} (hi : i = nI w) (hq : q = nI k) (hw : w < 8) (hk : k < 7) (h : Q (va_up T 1 (upd (T 1) (w * 7 + k) v))) : wp_X3_tell i q v T Q := by
  subst hi hq
  have e : nI w * 7 + nI k = nI (w * 7 + k) := by
    rw [show (7 : Int32) = nI 7 from rfl, pk_mul, nI_add]
  refine R_put e (show w * 7 + k < 56 by omega) (by decide) ?_
  rintro _ rfl
  exact h
theorem tv_tell {T : zT} {w k u j : Nat} {v : Int32} (hk : k < 7) (hj : j < 7) : tv (va_up T 1 (upd (T 1) (w * 7 + k) v)) u j = if u = w ∧ j = k then v else tv T u j := by
  show upd (T 1) (w * 7 + k) v (u * 7 + j) = _
  by_cases c : u = w ∧ j = k
  · rw [if_pos c, c.1, c.2, pk_us]
  · rw [if_neg c, pk_un (by omega)]
    rfl
section OK12
variable {E N F IT IF L M G Mi : zT}
/-- in mind: as told, but for the looks of those who come -/
def zMd (n : Nat) (N T : zT) : Prop := (∀ k : Nat, k < 5 → T 0 k = N 0 k) ∧ (∀ w : Nat, w < 8 → ∀ j : Nat, j < 7 → (j ≠ 5 ∨ n ≤ w) → tv T w j = tv N w j) ∧ T 2 0 = N 2 0
theorem R_seeds {n m : Nat} {z : Int32} {Q : Int32 → zT → zT → zT → Prop} (hV : zV N n) (hm : m ≤ 20) (h : ∀ T G' : zT, Q (zsum (fun k => cH (zSd N z n k) n) m) E T G') :
    ∀ (f k : Nat) (T Gx : zT), k + f = m → zMd n N T → wpl_X4_seeds_44 N (nI m) z Q (f + 1) (zlots z (k * n)) (zsum (fun k => cH (zSd N z n k) n) k) (nI k) E T Gx := by
  have h8 := hV.2.1
  intro f
  induction f with
  | zero =>
    intro k T Gx hk hT
    have : k = m := by omega
    subst this
    exact zt (Int32.le_refl _) (h T Gx)
  | succ f ih =>
    intro k T Gx hk hT
    refine zf (nI_ge (by omega) (by omega)) ⟨n + 1, ?_⟩
    have inner : ∀ (g w : Nat) (T Gx : zT), w + g = n → zMd n N T → (∀ u : Nat, u < w → tv T u 5 = lk (zlots z (k * n + u + 1))) →
        wpl_X4_seeds_53 N (nI m) z Q (wpl_X4_seeds_44 N (nI m) z Q (f + 1)) (g + 1) (zlots z (k * n + w)) (zsum (fun k => cH (zSd N z n k) n) k) (nI k) (nI w) E T Gx := by
      intro g
      induction g with
      | zero =>
        intro w T Gx hw hT hl
        have : w = n := by omega
        subst this
        refine zt (by rw [hT.2.2, hV.1]; exact Int32.le_refl _) ?_
        have hQ : TEq T (zSd N z w k) := by
          refine ⟨hT.1, fun u hu j hj => ?_, hT.2.2⟩
          rw [zSd_tv hj]
          by_cases c : j = 5 ∧ u < w
          · rw [if_pos c, c.1, hl u c.2]
          · rw [if_neg c]
            exact hT.2.1 u hu j hj (by omega)
        have hVT := TEq_zV hQ (zSd_V hV)
        unfold wpb_X4_seeds_99
        refine R_run hVT.1 h8 (fun G' hG => R_cnt hG.1 h8 ?_)
        rw [cH_G hG, cH_cong hQ h8]
        rintro _ rfl
        rintro _ rfl
        rw [show nI k + (1 : Int32) = nI (k + 1) from nI_1 k, show k * w + w = (k + 1) * w by rw [Nat.add_mul, Nat.one_mul]]
        exact ih (k + 1) T G' (by omega) hT
      | succ g ihg =>
        intro w T Gx hw hT hl
        refine zf (by rw [hT.2.2, hV.1]; exact nI_ge (by omega) (by omega)) ?_
        rintro _ rfl
        refine ⟨by decide, by decide, R_tell (k := 5) rfl rfl (show w < 8 by omega) (by decide) ?_⟩
        rintro _ rfl
        rw [show nI w + (1 : Int32) = nI (w + 1) from nI_1 w]
        refine ihg (w + 1) _ Gx (by omega) ⟨hT.1, fun u hu j hj q => ?_, hT.2.2⟩ (fun u hu => ?_)
        · rw [tv_tell (by decide) hj, if_neg (by omega)]
          exact hT.2.1 u hu j hj q
        · rw [tv_tell (by decide) (by decide)]
          by_cases c : u = w
          · rw [if_pos ⟨c, rfl⟩, c]
            rfl
          · rw [if_neg (fun q => c q.1)]
            exact hl u (by omega)
    exact inner n 0 T Gx (by omega) hT (fun u hu => absurd hu (Nat.not_lt_zero u))
def zMs (A S : zT) : Prop := ∀ j : Nat, (j < 26 ∨ 37 < j) → j ≠ 6 → S j = A j
theorem M_seeds {n m : Nat} {z : Int32} {A : zT} {Q : Int32 → zT → Prop} (R : TR N A) (hV : zV N n) (hm : m ≤ 20) (h : ∀ S : zT, zMs A S → wpb_X5_seeds_107 (nI m) z Q (zsum (fun k => cH (zSd N z n k) n) m) S) :
    ∀ (f k : Nat) (S : zT), k + f = m → zMs A S → (∀ u : Nat, n ≤ u → u < 8 → S 6 u = A 6 u) → wpl_X5_seeds_33 (nI m) z Q (f + 1) (zlots z (k * n)) (zsum (fun k => cH (zSd N z n k) n) k) (nI k) S := by
  have h8 := hV.2.1
  have a13 : A 13 0 = nI n := R.2.2.trans hV.1
  intro f
  induction f with
  | zero =>
    intro k S hk hS h6
    have : k = m := by omega
    subst this
    exact zt (Int32.le_refl _) (h S hS)
  | succ f ih =>
    intro k S hk hS h6
    refine zf (nI_ge (by omega) (by omega)) ⟨n + 1, ?_⟩
    have inner : ∀ (g w : Nat) (S : zT), w + g = n → zMs A S → (∀ u : Nat, n ≤ u → u < 8 → S 6 u = A 6 u) → (∀ u : Nat, u < w → S 6 u = lk (zlots z (k * n + u + 1))) →
        wpl_X5_seeds_42 (nI m) z Q (wpl_X5_seeds_33 (nI m) z Q (f + 1)) (g + 1) (zlots z (k * n + w)) (zsum (fun k => cH (zSd N z n k) n) k) (nI k) (nI w) S := by
      intro g
      induction g with
      | zero =>
        intro w S hw hS h6 hl
        have : w = n := by omega
        subst this
        have s13 : S 13 0 = nI w := by rw [hS 13 (by decide) (by decide)]; exact a13
        refine zt (by rw [s13]; exact Int32.le_refl _) ?_
        have hR : TR (zSd N z w k) S := by
          obtain ⟨r1, r2, r3⟩ := R
          refine ⟨fun j hj => by rw [hS 8 (by decide) (by decide)]; exact r1 j hj, fun u hu => ?_, by rw [hS 13 (by decide) (by decide)]; exact r3⟩
          obtain ⟨m0, m1, m2, m3, m4, m5, m6⟩ := r2 u hu
          rw [zSd_tv (by decide), zSd_tv (by decide), zSd_tv (by decide), zSd_tv (by decide), zSd_tv (by decide), zSd_tv (by decide), zSd_tv (by decide), hS 1 (by decide) (by decide), hS 2 (by decide) (by decide), hS 3 (by decide) (by decide), hS 4 (by decide) (by decide), hS 5 (by decide) (by decide), hS 7 (by decide) (by decide)]
          refine ⟨m0, m1, m2, m3, m4, ?_, m6⟩
          by_cases c : u < w
          · rw [if_pos ⟨rfl, c⟩, hl u c]
          · rw [if_neg (fun q => c q.2), h6 u (by omega) hu, m5]
        have hVT := zSd_V (z := z) (k := k) hV
        unfold wpb_X5_seeds_88
        refine M_all hR hVT (fun S' hS' => M_cnt ((TR_keep hR hS'.1).2.2.trans hVT.1) h8 ?_)
        rw [cH_M hS']
        rintro _ rfl
        rintro _ rfl
        rw [show nI k + (1 : Int32) = nI (k + 1) from nI_1 k, show k * w + w = (k + 1) * w by rw [Nat.add_mul, Nat.one_mul]]
        exact ih (k + 1) S' (by omega) (fun j j1 j2 => (hS'.1 j j1).trans (hS j j1 j2)) (fun u u1 u2 => by rw [hS'.1 6 (by decide)]; exact h6 u u1 u2)
      | succ g ihg =>
        intro w S hw hS h6 hl
        have s13 : S 13 0 = nI n := by rw [hS 13 (by decide) (by decide)]; exact a13
        refine zf (by rw [s13]; exact nI_ge (by omega) (by omega)) ?_
        rintro _ rfl
        refine ⟨by decide, by decide, zv8 (by omega), ?_⟩
        rw [zcl (by omega)]
        rintro _ rfl
        rintro _ rfl
        rw [show nI w + (1 : Int32) = nI (w + 1) from nI_1 w]
        refine ihg (w + 1) _ (by omega) (fun j j1 j2 => by rw [va_up_ne _ _ j2]; exact hS j j1 j2) (fun u u1 u2 => ?_) (fun u hu => ?_)
        · rw [va_up_self, pk_un (by omega)]
          exact h6 u u1 u2
        · rw [va_up_self]
          by_cases c : u = w
          · rw [c, pk_us]
            rfl
          · rw [pk_un c]
            exact hl u (by omega)
    exact inner n 0 S (by omega) hS h6 (fun u hu => absurd hu (Nat.not_lt_zero u))
theorem ok_seeds {i z : Int32} (hI : Inv E N F IT IF L M) : wp_X4_seeds N i z E Mi G (fun r E' _ _ => wp_X5_seeds i z M (fun r' M' => r' = r ∧ Inv E' N F IT IF L M')) := by
  obtain ⟨R, ⟨n, hV⟩, -⟩ := id hI
  refine ⟨fun c1 => ⟨fun c2 => ?_, fun c2 => ?_⟩, fun c1 => ?_⟩
  · obtain ⟨m, hm, e⟩ : ∃ m : Nat, m ≤ 20 ∧ i = nI m := by
      rcases pk_ix i (n := 21) (by decide) with h | h | ⟨j, hj, rfl⟩
      · exfalso
        rw [zle] at c1
        rw [zlt] at h
        have : (1 : Int32).toInt = 1 := rfl
        have : (0 : Int32).toInt = 0 := rfl
        omega
      · exfalso
        rw [zle] at c2 h
        have : (20 : Int32).toInt = 20 := rfl
        have : (nI 21).toInt = 21 := rfl
        omega
      · exact ⟨j, by omega, rfl⟩
    subst e
    refine R_bec (fun T hT => ⟨m + 1, ?_⟩)
    have hMd : zMd n N T := ⟨hT.1, fun w hw j hj _ => hT.2.1 w hw j hj, hT.2.2⟩
    have key := R_seeds (E := E) (z := z) (Q := fun r E' _ _ => wp_X5_seeds (nI m) z M (fun r' M' => r' = r ∧ Inv E' N F IT IF L M')) hV hm (fun T G' => ?_) m 0 T G (by omega) hMd
    · rw [Nat.zero_mul] at key
      exact key
    · refine B0 c1 c2 (zt rfl (M_keepAll 1 (by decide) rfl (fun A hA => ⟨m + 1, ?_⟩)))
      obtain ⟨k1, k2, k3, k4, k5, k6, k7⟩ := hA
      have RA : TR N A := by
        obtain ⟨r1, r2, r3⟩ := R
        refine ⟨fun j hj => by rw [k1 8 (by decide) (by decide) (by decide) (by decide)]; exact r1 j hj, fun u hu => ?_, k2.trans r3⟩
        rw [k1 1 (by decide) (by decide) (by decide) (by decide), k1 2 (by decide) (by decide) (by decide) (by decide), k1 3 (by decide) (by decide) (by decide) (by decide), k1 4 (by decide) (by decide) (by decide) (by decide), k1 5 (by decide) (by decide) (by decide) (by decide), k1 6 (by decide) (by decide) (by decide) (by decide), k1 7 (by decide) (by decide) (by decide) (by decide)]
        exact r2 u hu
      have key2 := M_seeds (z := z) (A := A) (Q := fun r' M' => r' = (zsum (fun k => cH (zSd N z n k) n) m) ∧ Inv E N F IT IF L M') RA hV hm (fun S hS => ?_) m 0 A (by omega) (fun _ _ _ => rfl) (fun _ _ _ => rfl)
      · rw [Nat.zero_mul] at key2
        exact key2
      · unfold wpb_X5_seeds_107
        refine M_backAll 1 (by decide) rfl (fun B hB => ?_)
        obtain ⟨b1, b2, b3, b4⟩ := hB
        have s22 : S 22 = A 22 := hS 22 (by decide) (by decide)
        refine ⟨rfl, Inv_pt hI (fun r r1 r2 i hi => ?_) ?_ ?_ (fun k hk => ?_) (fun p hp => ?_)⟩
        · rw [b2 r r1 r2 i hi, s22, k4 r r1 r2 i hi]
        · rw [b3, s22, k5]
        · rw [b4, s22, k6]
        · rw [b1 k (by omega) (by omega) (by omega), hS k (by omega) (by omega), k1 k (by omega) (by omega) (by omega) (by omega)]
        · rw [b1 22 (by decide) (by decide) (by decide), s22, k7 p (by omega)]
  · exact RF 5 (by decide) rfl (B6 c1 c2 (zf (by decide) (MN 5 (by decide) rfl ⟨rfl, Inv_ref hI 5 (by decide)⟩)))
  · exact RF 3 (by decide) rfl (B4 c1 (zf (by decide) (MN 3 (by decide) rfl ⟨rfl, Inv_ref hI 3 (by decide)⟩)))
end OK12

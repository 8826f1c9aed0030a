/-! the two states, side by side -/
def zFv (F : zT) (c : Nat) : Prop := F 4 0 = nI c ∧ c ≤ 10 ∧ ∀ i : Nat, i < c → F 1 i = 0 ∨ F 1 i = 1
def zFM (F M : zT) : Prop := (∀ i : Nat, i < 10 → F 0 i = M 9 i ∧ F 1 i = M 10 i ∧ F 2 i = M 11 i ∧ F 3 i = M 12 i) ∧ F 4 0 = M 14 0
def zLM (L M : zT) : Prop := (∀ i : Nat, i < 80 → L 0 i = M 15 i) ∧ L 1 0 = M 19 0
def zLv (L : zT) (c : Nat) : Prop := L 1 0 = nI c ∧ c ≤ 80 ∧ ∀ i : Nat, i < c → ∃ v : Nat, v < 256 ∧ L 0 i = nI v
def zImg (IT IF M : zT) (b : Nat) : Prop := (∀ w : Nat, w < 8 → M 22 (b + w) = tv IT w 0 ∧ M 22 (b + 8 + w) = tv IT w 1 ∧ M 22 (b + 16 + w) = tv IT w 2 ∧ M 22 (b + 24 + w) = tv IT w 3 ∧ M 22 (b + 32 + w) = tv IT w 4 ∧ M 22 (b + 40 + w) = tv IT w 5 ∧ M 22 (b + 48 + w) = tv IT w 6) ∧ (∀ k : Nat, k < 5 → M 22 (b + 56 + k) = IT 0 k) ∧ (∀ i : Nat, i < 10 → M 22 (b + 61 + i) = IF 0 i ∧ M 22 (b + 71 + i) = IF 1 i ∧ M 22 (b + 81 + i) = IF 2 i ∧ M 22 (b + 91 + i) = IF 3 i) ∧ M 22 (b + 101) = IT 2 0 ∧ M 22 (b + 102) = IF 4 0
def zEM (E M : zT) : Prop := (∀ k : Nat, k < 6 → E 11 k = M 0 (k + 1)) ∧ E 5 0 = M 23 0 ∧ E 10 0 = M 40 0 ∧ (∀ i : Nat, i < 8 → E 9 i = M 39 i) ∧ ∃ r : Nat, E 10 0 = nI r ∧ r ≤ 8
def Inv (E N F IT IF L M : zT) : Prop := TR N M ∧ (∃ n : Nat, zV N n) ∧ zFM F M ∧ (∃ c : Nat, zFv F c) ∧ zLM L M ∧ (∃ c : Nat, zLv L c) ∧ zEM E M ∧ (E 5 0 = 0 ∨ (E 5 0 = 1 ∧ zImg IT IF M 0 ∧ (∃ n : Nat, zV IT n) ∧ ∃ c : Nat, zFv IF c))
theorem Inv_keep {E N F IT IF L M M' : zT} (h : Inv E N F IT IF L M) (hk : ∀ k : Nat, (k < 20 ∨ k = 22 ∨ k = 23 ∨ k = 39 ∨ k = 40) → k ≠ 16 → k ≠ 17 → k ≠ 18 → M' k = M k) : Inv E N F IT IF L M' := by
  have e : ∀ k : Nat, k < 16 → M' k = M k := fun k q => hk k (by omega) (by omega) (by omega) (by omega)
  have e19 := hk 19 (by omega) (by omega) (by omega) (by omega)
  have e22 := hk 22 (by omega) (by omega) (by omega) (by omega)
  have e23 := hk 23 (by omega) (by omega) (by omega) (by omega)
  have e39 := hk 39 (by omega) (by omega) (by omega) (by omega)
  have e40 := hk 40 (by omega) (by omega) (by omega) (by omega)
  unfold Inv TR zFM zLM zEM zImg at h ⊢
  rw [e 0 (by decide), e 1 (by decide), e 2 (by decide), e 3 (by decide), e 4 (by decide), e 5 (by decide), e 6 (by decide), e 7 (by decide), e 8 (by decide), e 9 (by decide), e 10 (by decide), e 11 (by decide), e 12 (by decide), e 13 (by decide), e 14 (by decide), e 15 (by decide), e19, e22, e23, e39, e40]
  exact h
theorem Inv_mKeep {E N F IT IF L M M' : zT} (h : Inv E N F IT IF L M) (hk : mKeep M M') : Inv E N F IT IF L M' := Inv_keep h (fun k h1 _ _ _ => hk k (by omega))
theorem Inv_E {E E' N F IT IF L M : zT} (h : Inv E N F IT IF L M) (h5 : E' 5 = E 5) (h9 : E' 9 = E 9) (h10 : E' 10 = E 10) (h11 : E' 11 = E 11) : Inv E' N F IT IF L M := by
  unfold Inv zEM at h ⊢
  rw [h5, h9, h10, h11]
  exact h
theorem zre : ∀ k, k < 6 → ((-1 : Int32) - (-(nI (k + 1))) = nI k ∧ -(-(nI (k + 1))) = nI (k + 1)) := by decide +kernel
def zE1 (E : zT) (k : Nat) : zT := va_up E 11 (upd (E 11) k (E 11 k + 1))
def zM1 (M : zT) (k : Nat) : zT := va_up M 0 (upd (M 0) (k + 1) (M 0 (k + 1) + 1))
theorem RF {E : zT} {num : Int32} {Q : Int32 → zT → Prop} (k : Nat) (hk : k < 6) (hn : num = -(nI (k + 1))) (h : Q num (zE1 E k)) : wp_X4_refuse num E Q := by
  rintro _ rfl
  have e : (-1 : Int32) - num = nI k := by rw [hn]; exact (zre k hk).1
  refine R_at e hk (by decide) (R_put e hk (by decide) ?_)
  rintro _ rfl
  exact h
theorem MN {M : zT} {num : Int32} {Q : Int32 → zT → Prop} (k : Nat) (hk : k < 6) (hn : num = -(nI (k + 1))) (h : Q num (zM1 M k)) : wp_X5_no num M Q := by
  have e : -num = nI (k + 1) := by rw [hn]; exact (zre k hk).2
  unfold wp_X5_no
  rw [e, zcl (by omega)]
  refine ⟨vp_in_nI (by omega) (by decide), vp_in_nI (by omega) (by decide), ?_⟩
  rintro _ rfl
  exact h
theorem Inv_ref {E N F IT IF L M : zT} (h : Inv E N F IT IF L M) (k : Nat) (hk : k < 6) : Inv (zE1 E k) N F IT IF L (zM1 M k) := by
  obtain ⟨h1, h2, h3, h4, h5, h6, ⟨e1, e2⟩, h8⟩ := h
  refine ⟨h1, h2, h3, h4, h5, h6, ⟨fun j hj => ?_, e2⟩, h8⟩
  show upd (E 11) k (E 11 k + 1) j = upd (M 0) (k + 1) (M 0 (k + 1) + 1) (j + 1)
  by_cases c : j = k
  · subst c
    rw [pk_us, pk_us, e1 j hj]
  · rw [pk_un c, pk_un (by omega), e1 j hj]
theorem M_isW {M : zT} {n : Nat} {i : Int32} {Q : Int32 → Prop} (hn : M 13 0 = nI n) (h8 : n ≤ 8) (hy : ∀ w : Nat, w < n → i = nI w → Q 1) (hno : (i < 0 ∨ nI n ≤ i) → Q 0) : wp_X5_isWalker M i Q := by
  refine ⟨fun c => hno (Or.inl c), fun c => ⟨fun c2 => hno (Or.inr (hn ▸ c2)), fun c2 => ?_⟩⟩
  rw [hn] at c2
  rcases pk_ix i (n := n) (by omega) with h | h | ⟨j, hj, e⟩
  · exact absurd h c
  · exact absurd h c2
  · exact hy j hj e
theorem nno {n w : Nat} {i : Int32} (h8 : n ≤ 8) (hw : w < n) (h : i < 0 ∨ nI n ≤ i) : i = nI w → False := by
  intro e
  subst e
  rcases h with h | h
  · exact nI_pos (by omega) h
  · exact nI_ge hw (by omega) h
/-- a walker is asked for: both sides say whether there is such a one -/
theorem W2 {N M : zT} {n : Nat} {i : Int32} {Q : Int32 → Prop} (R : TR N M) (hV : zV N n)
    (hy : ∀ w : Nat, w < n → i = nI w → (∀ Q' : Int32 → Prop, Q' 1 → wp_X5_isWalker M i Q') → Q 1) (hno : (∀ Q' : Int32 → Prop, Q' 0 → wp_X5_isWalker M i Q') → Q 0) : wp_X3_has N i Q := by
  have h13 : M 13 0 = nI n := by rw [R.2.2]; exact hV.1
  refine R_has hV.1 hV.2.1 (fun w hw e => hy w hw e (fun Q' q => M_isW h13 hV.2.1 (fun _ _ _ => q) (fun z => (nno hV.2.1 hw z e).elim))) (fun z => hno (fun Q' q => M_isW h13 hV.2.1 (fun w hw e => (nno hV.2.1 hw z e).elim) (fun _ => q)))
theorem M_all {T M : zT} {n : Nat} {Q : zT → Prop} (R : TR T M) (hV : zV T n) (h : ∀ S : zT, zMG T n P00 M S → Q S) : wp_X5_goesAll M Q := by
  have h13 : M 13 0 = nI n := by rw [R.2.2]; exact hV.1
  have h8 := hV.2.1
  obtain ⟨a, b, c⟩ := zm5 n (by omega)
  unfold wp_X5_goesAll
  rw [h13, a]
  refine M_goes R hV ⟨b, fun v hv => ?_⟩ h
  rw [c v hv]
  simp
section OK1
variable {E N F IT IF L M G Mi : zT}
theorem ok_there {i : Int32} (hI : Inv E N F IT IF L M) : wp_X4_there N i E (fun r E' => wp_X5_there i M (fun r' M' => r' = r ∧ Inv E' N F IT IF L M')) := by
  obtain ⟨R, ⟨n, hV⟩, -⟩ := id hI
  refine W2 R hV (fun w hw e hm => ?_) (fun hm => ?_)
  · refine zf (by decide) (R_there e (by have := hV.2.1; omega) (hm _ (zf (by decide) ?_)))
    rw [e]
    exact M_there R hV hw ⟨rfl, hI⟩
  · refine zt rfl (RF 0 (by decide) rfl (hm _ (zt rfl (MN 0 (by decide) rfl ⟨rfl, Inv_ref hI 0 (by decide)⟩))))
/-- what is asked of a walker after a run: class and reference -/
theorem run2 {n : Nat} (hI : Inv E N F IT IF L M) (hV : zV N n) {Q : zT → Prop} (h : ∀ G' : zT, zG N n G' → Q G') : wp_X1_run N G Q := R_run hV.1 hV.2.1 h
theorem who {n w : Nat} {T : zT} (hw : w < n) : ∃ j : Nat, j < n ∧ q1 T n P00 j = w := by
  obtain ⟨j, hj, e⟩ := q1_onto (T := T) (P0 := P00) hw rfl
  rw [zcn_f] at hj
  exact ⟨j, hj, e⟩
theorem ok_comes {i : Int32} (hI : Inv E N F IT IF L M) : wp_X4_comes N i E G (fun r E' _ => wp_X5_comes i M (fun r' M' => r' = r ∧ Inv E' N F IT IF L M')) := by
  obtain ⟨R, ⟨n, hV⟩, -⟩ := id hI
  have h8 := hV.2.1
  unfold wp_X4_comes wp_X4_answerOf_k1
  refine W2 R hV (fun w hw e hm => ?_) (fun hm => ?_)
  · refine zf (by decide) (R_run hV.1 h8 (fun G' hG => R_at e (by omega) (by decide) (hm _ (zf (by decide) (M_all R hV (fun S hS => ?_))))))
    obtain ⟨hk, -, hr, -⟩ := hS
    obtain ⟨j, hj, ej⟩ := who (T := N) hw
    rw [e, zcl (by omega)]
    refine ⟨zv8 (by omega), ?_, Inv_mKeep hI hk⟩
    rw [← ej, (hr j (by rw [zcn_f]; exact hj)).2.1, (hG.2 j hj).2.1]
  · exact zt rfl (RF 0 (by decide) rfl (hm _ (zt rfl (MN 0 (by decide) rfl ⟨rfl, Inv_ref hI 0 (by decide)⟩))))
theorem ok_through {i : Int32} (hI : Inv E N F IT IF L M) : wp_X4_through N i E G (fun r E' _ => wp_X5_through i M (fun r' M' => r' = r ∧ Inv E' N F IT IF L M')) := by
  obtain ⟨R, ⟨n, hV⟩, -⟩ := id hI
  have h8 := hV.2.1
  unfold wp_X4_through wp_X4_answerOf_k2
  refine W2 R hV (fun w hw e hm => ?_) (fun hm => ?_)
  · refine zf (by decide) (R_run hV.1 h8 (fun G' hG => R_at e (by omega) (by decide) (hm _ (zf (by decide) (M_all R hV (fun S hS => ?_))))))
    obtain ⟨hk, -, hr, -⟩ := hS
    obtain ⟨j, hj, ej⟩ := who (T := N) hw
    rw [e, zcl (by omega)]
    refine ⟨zv8 (by omega), ?_, Inv_mKeep hI hk⟩
    rw [← ej, (hr j (by rw [zcn_f]; exact hj)).2.2.1, (hG.2 j hj).2.2.1]
  · exact zt rfl (RF 0 (by decide) rfl (hm _ (zt rfl (MN 0 (by decide) rfl ⟨rfl, Inv_ref hI 0 (by decide)⟩))))
theorem ok_opens {i : Int32} (hI : Inv E N F IT IF L M) : wp_X4_opens N i E G (fun r E' _ => wp_X5_opens i M (fun r' M' => r' = r ∧ Inv E' N F IT IF L M')) := by
  obtain ⟨R, ⟨n, hV⟩, -⟩ := id hI
  have h8 := hV.2.1
  unfold wp_X4_opens wp_X4_answerOf_k3
  refine W2 R hV (fun w hw e hm => ?_) (fun hm => ?_)
  · refine zf (by decide) (R_run hV.1 h8 (fun G' hG => R_at e (by omega) (by decide) (hm _ (zf (by decide) (M_all R hV (fun S hS => ?_))))))
    obtain ⟨hk, -, hr, -⟩ := hS
    obtain ⟨j, hj, ej⟩ := who (T := N) hw
    rw [e, zcl (by omega)]
    refine ⟨zv8 (by omega), ?_, Inv_mKeep hI hk⟩
    rw [← ej, (hr j (by rw [zcn_f]; exact hj)).2.2.2.1, (hG.2 j hj).2.2.2.1]
  · exact zt rfl (RF 0 (by decide) rfl (hm _ (zt rfl (MN 0 (by decide) rfl ⟨rfl, Inv_ref hI 0 (by decide)⟩))))
theorem ok_stands {i : Int32} (hI : Inv E N F IT IF L M) : wp_X4_stands N i E G (fun r E' _ => wp_X5_stands i M (fun r' M' => r' = r ∧ Inv E' N F IT IF L M')) := by
  obtain ⟨R, ⟨n, hV⟩, -⟩ := id hI
  have h8 := hV.2.1
  unfold wp_X4_stands wp_X4_answerOf_k4
  refine W2 R hV (fun w hw e hm => ?_) (fun hm => ?_)
  · refine zf (by decide) (R_run hV.1 h8 (fun G' hG => R_at e (by omega) (by decide) (hm _ (zf (by decide) (M_all R hV (fun S hS => ?_))))))
    obtain ⟨hk, -, hr, -⟩ := hS
    obtain ⟨j, hj, ej⟩ := who (T := N) hw
    rw [e, zcl (by omega)]
    refine ⟨zv8 (by omega), ?_, Inv_mKeep hI hk⟩
    rw [← ej, (hr j (by rw [zcn_f]; exact hj)).2.2.2.2.1, (hG.2 j hj).2.2.2.2.1]
  · exact zt rfl (RF 0 (by decide) rfl (hm _ (zt rfl (MN 0 (by decide) rfl ⟨rfl, Inv_ref hI 0 (by decide)⟩))))
theorem ok_by {i : Int32} (hI : Inv E N F IT IF L M) : wp_X4_by N i E G (fun r E' _ => wp_X5_by i M (fun r' M' => r' = r ∧ Inv E' N F IT IF L M')) := by
  obtain ⟨R, ⟨n, hV⟩, -⟩ := id hI
  have h8 := hV.2.1
  unfold wp_X4_by wp_X4_answerOf_k5
  refine W2 R hV (fun w hw e hm => ?_) (fun hm => ?_)
  · refine zf (by decide) (R_run hV.1 h8 (fun G' hG => R_at e (by omega) (by decide) (hm _ (zf (by decide) (M_all R hV (fun S hS => ?_))))))
    obtain ⟨hk, -, hr, -⟩ := hS
    obtain ⟨j, hj, ej⟩ := who (T := N) hw
    rw [e, zcl (by omega)]
    refine ⟨zv8 (by omega), ?_, Inv_mKeep hI hk⟩
    rw [← ej, (hr j (by rw [zcn_f]; exact hj)).2.2.2.2.2.1, (hG.2 j hj).2.2.2.2.2.1]
  · exact zt rfl (RF 0 (by decide) rfl (hm _ (zt rfl (MN 0 (by decide) rfl ⟨rfl, Inv_ref hI 0 (by decide)⟩))))
theorem ok_runs {i : Int32} (hI : Inv E N F IT IF L M) : wp_X4_runs N i E G (fun r E' _ => wp_X5_runs i M (fun r' M' => r' = r ∧ Inv E' N F IT IF L M')) := by
  obtain ⟨R, ⟨n, hV⟩, -⟩ := id hI
  have h8 := hV.2.1
  unfold wp_X4_runs wp_X4_answerOf_k6
  refine W2 R hV (fun w hw e hm => ?_) (fun hm => ?_)
  · refine zf (by decide) (R_run hV.1 h8 (fun G' hG => R_at e (by omega) (by decide) (hm _ (zf (by decide) (M_all R hV (fun S hS => ?_))))))
    obtain ⟨hk, -, hr, -⟩ := hS
    obtain ⟨j, hj, ej⟩ := who (T := N) hw
    rw [e, zcl (by omega)]
    refine ⟨zv8 (by omega), ?_, Inv_mKeep hI hk⟩
    rw [← ej, (hr j (by rw [zcn_f]; exact hj)).2.2.2.2.2.2, (hG.2 j hj).2.2.2.2.2.2.1]
  · exact zt rfl (RF 0 (by decide) rfl (hm _ (zt rfl (MN 0 (by decide) rfl ⟨rfl, Inv_ref hI 0 (by decide)⟩))))
end OK1

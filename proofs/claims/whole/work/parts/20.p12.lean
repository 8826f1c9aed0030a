section OK4
variable {E N F IT IF L M G Mi : zT}
theorem ok_count {q : Int32} (hI : Inv E N F IT IF L M) : wp_X4_count E N F L q (fun r => wp_X5_count M q (fun r' => r' = r ∧ Inv E N F IT IF L M)) := by
  have hI' := hI
  obtain ⟨R, -, ⟨-, hF⟩, -, ⟨-, hL⟩, -, ⟨e11, -, e10, -, -⟩, -⟩ := hI
  have h13 : M 13 0 = N 2 0 := R.2.2
  have s : ∀ k : Nat, k < 5 → M 8 k = N 0 k := R.1
  have low : (q < 11 ∨ 16 < q) → wpb_X4_count_24 E N F L q (fun r => wp_X5_count M q (fun r' => r' = r ∧ Inv E N F IT IF L M)) := by
    intro hq
    refine ⟨fun c => I0 hq (zt rfl (zt c ⟨h13, hI'⟩)), fun c0 => ⟨fun c => R_door (k := 0) rfl (by decide) (I0 hq (zt rfl (zf c0 (zt c ⟨vp_in_nI (n := 0) (by decide) (by decide), s 0 (by decide), hI'⟩)))), fun c1 => ⟨fun c => R_door (k := 1) rfl (by decide) (I0 hq (zt rfl (zf c0 (zf c1 (zt c ⟨vp_in_nI (n := 1) (by decide) (by decide), s 1 (by decide), hI'⟩))))), fun c2 => ⟨fun c => R_door (k := 2) rfl (by decide) (I0 hq (zt rfl (zf c0 (zf c1 (zf c2 (zt c ⟨vp_in_nI (n := 2) (by decide) (by decide), s 2 (by decide), hI'⟩)))))), fun c3 => ⟨fun c => R_door (k := 4) rfl (by decide) (I0 hq (zt rfl (zf c0 (zf c1 (zf c2 (zf c3 (zt c ⟨vp_in_nI (n := 4) (by decide) (by decide), s 4 (by decide), hI'⟩))))))), fun c4 => ⟨fun c => R_door (k := 3) rfl (by decide) (I0 hq (zt rfl (zf c0 (zf c1 (zf c2 (zf c3 (zf c4 (zt c ⟨vp_in_nI (n := 3) (by decide) (by decide), s 3 (by decide), hI'⟩)))))))), fun c5 => ⟨fun c => I0 hq (zt rfl (zf c0 (zf c1 (zf c2 (zf c3 (zf c4 (zf c5 (zt c ⟨hF.symm, hI'⟩)))))))), fun c6 => ⟨fun c => I0 hq (zt rfl (zf c0 (zf c1 (zf c2 (zf c3 (zf c4 (zf c5 (zf c6 (zt c ⟨e10.symm, hI'⟩))))))))), fun c7 => ⟨fun c => I0 hq (zt rfl (zf c0 (zf c1 (zf c2 (zf c3 (zf c4 (zf c5 (zf c6 (zf c7 (zt c ⟨hL.symm, hI'⟩)))))))))), fun c8 => I0 hq (zt rfl (zf c0 (zf c1 (zf c2 (zf c3 (zf c4 (zf c5 (zf c6 (zf c7 (zf c8 ⟨rfl, hI'⟩))))))))))⟩⟩⟩⟩⟩⟩⟩⟩⟩
  refine ⟨fun c => low (Or.inl c), fun c => ⟨fun c2 => low (Or.inr c2), fun c2 => ?_⟩⟩
  obtain ⟨k, hk, ek⟩ : ∃ k : Nat, k < 6 ∧ q = nI (k + 11) := by
    have c3 : ¬ q < 0 := by
      intro z
      apply c
      rw [zlt] at z ⊢
      have e0 : (0 : Int32).toInt = 0 := rfl
      have e1 : (11 : Int32).toInt = 11 := rfl
      omega
    obtain ⟨k, hk, ek⟩ := nI_of2 (x := q) (M := 16) (n := 16) rfl c3 (znl.mp c2)
    subst ek
    have : ¬ k < 11 := fun z => c ((nI_ltI (b := 11) (by omega) (by omega)).mpr z)
    exact ⟨k - 11, by omega, by rw [show k - 11 + 11 = k by omega]⟩
  subst ek
  have a1 : nI (k + 11) - (11 : Int32) = nI k := by rw [show (11 : Int32) = nI 11 from rfl, pk_sub (by omega)]; congr 1
  have a2 : nI (k + 11) - (10 : Int32) = nI (k + 1) := by rw [show (10 : Int32) = nI 10 from rfl, pk_sub (by omega)]; congr 1
  refine R_at a1 hk (by decide) (I1 c c2 (zf (by decide) ?_))
  rw [a2, zcl (by omega)]
  exact ⟨vp_in_nI (by omega) (by decide), (e11 k hk).symm, hI'⟩
/-- a film more -/
def zFa (F : zT) (c : Nat) (y l b h : Int32) : zT := va_up (va_up (va_up (va_up (va_up F 0 (upd (F 0) c y)) 1 (upd (F 1) c l)) 2 (upd (F 2) c b)) 3 (upd (F 3) c h)) 4 (fun _ => nI (c + 1))
def zMa (M : zT) (c : Nat) (y l b h : Int32) : zT := va_up (va_up (va_up (va_up (va_up M 9 (upd (M 9) c y)) 10 (upd (M 10) c l)) 11 (upd (M 11) c b)) 12 (upd (M 12) c h)) 14 (fun _ => nI (c + 1))
theorem R_fa {c : Nat} {y l b h : Int32} {Q : zT → Prop} (hc : F 4 0 = nI c) (hlt : c < 10) (q : Q (zFa F c y l b h)) : wp_X0_add y l b h F Q := by
  refine zf (by rw [hc]; exact nI_ge (b := 10) hlt (by omega)) (R_put hc hlt (by decide) ?_)
  rintro _ rfl
  refine R_put hc hlt (by decide) ?_
  rintro _ rfl
  refine R_put hc hlt (by decide) ?_
  rintro _ rfl
  refine R_put hc hlt (by decide) ?_
  rintro _ rfl
  intro F5 e5
  have : F5 = zFa F c y l b h := by
    rw [e5]
    have : F 4 0 + 1 = nI (c + 1) := by rw [hc, nI_1]
    show va_up _ 4 (fun _ => F 4 0 + 1) = _
    rw [this]
    rfl
  rw [this]
  exact q
theorem M_fa {c : Nat} {y l b h : Int32} {Q : zT → Prop} (hc : M 14 0 = nI c) (hlt : c < 10) (q : Q (zMa M c y l b h)) : wp_X5_addsFilm y l b h M Q := by
  have v : vp_in (nI c) 10 := vp_in_nI hlt (by decide)
  have cc : (nI c).toNatClampNeg = c := zcl (by omega)
  refine ⟨by rw [hc]; exact v, ?_⟩
  rintro _ rfl
  refine ⟨by show vp_in (M 14 0) 10; rw [hc]; exact v, ?_⟩
  rintro _ rfl
  refine ⟨by show vp_in (M 14 0) 10; rw [hc]; exact v, ?_⟩
  rintro _ rfl
  refine ⟨by show vp_in (M 14 0) 10; rw [hc]; exact v, ?_⟩
  rintro _ rfl
  intro S5 e5
  have : S5 = zMa M c y l b h := by
    rw [e5]
    show va_up (va_up (va_up (va_up (va_up M 9 (upd (M 9) (M 14 0).toNatClampNeg y)) 10 (upd (M 10) (M 14 0).toNatClampNeg l)) 11 (upd (M 11) (M 14 0).toNatClampNeg b)) 12 (upd (M 12) (M 14 0).toNatClampNeg h)) 14 (fun _ => M 14 0 + 1) = _
    rw [hc, cc, nI_1]
    rfl
  rw [this]
  exact q
theorem Inv_fa {c : Nat} {y l b h : Int32} (hI : Inv E N F IT IF L M) (hc : F 4 0 = nI c) (hlt : c < 10) (hl : l = 0 ∨ l = 1) : Inv E N (zFa F c y l b h) IT IF L (zMa M c y l b h) := by
  obtain ⟨h1, h2, ⟨h3, h3'⟩, ⟨c', hc', h10, hv⟩, h5⟩ := hI
  refine ⟨h1, h2, ⟨fun i hi => ?_, rfl⟩, ⟨c + 1, rfl, by omega, fun i hi => ?_⟩, h5⟩
  · obtain ⟨a, b', d, e⟩ := h3 i hi
    show upd (F 0) c y i = upd (M 9) c y i ∧ upd (F 1) c l i = upd (M 10) c l i ∧ upd (F 2) c b i = upd (M 11) c b i ∧ upd (F 3) c h i = upd (M 12) c h i
    by_cases z : i = c
    · subst z; rw [pk_us, pk_us, pk_us, pk_us, pk_us, pk_us, pk_us, pk_us]; exact ⟨rfl, rfl, rfl, rfl⟩
    · rw [pk_un z, pk_un z, pk_un z, pk_un z, pk_un z, pk_un z, pk_un z, pk_un z]; exact ⟨a, b', d, e⟩
  · show upd (F 1) c l i = 0 ∨ upd (F 1) c l i = 1
    by_cases z : i = c
    · subst z; rw [pk_us]; exact hl
    · rw [pk_un z]
      refine hv i ?_
      have : c' = c := (nI_eq (by omega) (by omega)).mp (hc'.symm.trans hc)
      omega
/-- the refusal of a film: class and reference -/
theorem film2 {y l b h : Int32} {bits : Int32} {Q : Int32 → Prop} (hI : Inv E N F IT IF L M) (hb : ¬ bits = 0 ↔ ((l = 0 ∨ l = 1) ∧ (h = 0 ∨ h = 1)))
    (bad : ∀ (k : Nat), k < 6 → (∀ Q' : Int32 → Prop, Q' (-(nI (k + 1))) → wp_X5_notFilm y l b h Q') → Q (-(nI (k + 1))))
    (full : (∀ Q' : Int32 → Prop, Q' 0 → wp_X5_notFilm y l b h Q') → M 14 0 = 10 → Q (-6))
    (good : ∀ c : Nat, F 4 0 = nI c → M 14 0 = nI c → c < 10 → (l = 0 ∨ l = 1) → (∀ Q' : Int32 → Prop, Q' 0 → wp_X5_notFilm y l b h Q') → Q 0) : wp_X4_refusalOfFilm E F y b bits Q := by
  obtain ⟨-, -, ⟨-, h14⟩, ⟨c, hc, h10, -⟩, -⟩ := hI
  have g14 : M 14 0 = nI c := by rw [← h14]; exact hc
  have bit : ∀ {z : Int32}, (z = 0 ∨ z = 1) → ∀ Q' : Int32 → Prop, Q' 1 → wp_X5_isIn z 0 1 Q' := by
    intro z hz Q' q
    refine I1 ?_ ?_ q
    · rcases hz with e | e <;> rw [e] <;> decide
    · rcases hz with e | e <;> rw [e] <;> decide
  have nbit : ∀ {z : Int32}, ¬ (z = 0 ∨ z = 1) → ∀ Q' : Int32 → Prop, Q' 0 → wp_X5_isIn z 0 1 Q' := by
    intro z hz Q' q
    refine I0 ?_ q
    have a0 : ¬ z = 0 := fun e => hz (Or.inl e)
    have a1 : ¬ z = 1 := fun e => hz (Or.inr e)
    rw [zlt, zlt]
    rw [zeq] at a0 a1
    have e0 : (0 : Int32).toInt = 0 := rfl
    have e1 : (1 : Int32).toInt = 1 := rfl
    omega
  refine ⟨fun c1 => bad 3 (by decide) (fun Q' q => zt c1 q), fun c1 => ⟨fun c2 => ⟨fun c3 => bad 5 (by decide) (fun Q' q => zf c1 (zt c2 (zt c3 q))), fun c3 => ⟨fun c4 => ⟨fun c5 => ?_, fun c5 => ?_⟩, fun c4 => bad 5 (by decide) (fun Q' q => zf c1 (zt c2 (zf c3 (zf c4 q))))⟩⟩, fun c2 => bad 3 (by decide) (fun Q' q => zf c1 (zf c2 q))⟩⟩
  · refine bad 1 (by decide) (fun Q' q => zf c1 (zt c2 (zf c3 (zt c4 ?_))))
    by_cases hl : l = 0 ∨ l = 1
    · have hh : ¬ (h = 0 ∨ h = 1) := fun z => (hb.mpr ⟨hl, z⟩) c5
      exact bit hl _ (zf (by decide) (nbit hh _ (zt rfl q)))
    · exact nbit hl _ (zt rfl q)
  · obtain ⟨hl, hh⟩ := hb.mp c5
    have nf : ∀ Q' : Int32 → Prop, Q' 0 → wp_X5_notFilm y l b h Q' := fun Q' q => zf c1 (zt c2 (zf c3 (zt c4 (bit hl _ (zf (by decide) (bit hh _ (zf (by decide) q)))))))
    rw [hc]
    refine ⟨fun c6 => good c hc g14 ((nI_ltI (b := 10) (by omega) (by omega)).mp c6) hl nf, fun c6 => full nf ?_⟩
    have : ¬ c < 10 := fun z => c6 ((nI_ltI (b := 10) (by omega) (by omega)).mpr z)
    rw [g14, show c = 10 by omega]
    rfl
theorem ok_film {y l b h : Int32} (hI : Inv E N F IT IF L M) : wp_X4_film y l b h E F (fun r E' F' => wp_X5_film y l b h M (fun r' M' => r' = r ∧ Inv E' N F' IT IF L M')) := by
  have hno : ∀ k : Nat, k < 6 → wpb_X5_film_28 y l b h (fun r' M' => r' = -(nI (k + 1)) ∧ Inv (zE1 E k) N F IT IF L M') (-(nI (k + 1))) M := fun k hk => zf (n0 k hk) (MN k hk rfl ⟨rfl, Inv_ref hI k hk⟩)
  have main : ∀ bits : Int32, (¬ bits = 0 ↔ ((l = 0 ∨ l = 1) ∧ (h = 0 ∨ h = 1))) → wpb_X4_film_23 y l b h (fun r E' F' => wp_X5_film y l b h M (fun r' M' => r' = r ∧ Inv E' N F' IT IF L M')) y b bits E F := by
    intro bits hb
    refine film2 hI hb (fun k hk nf => zf (n0 k hk) (RF k hk rfl (nf _ (zf (n0 k hk) (hno k hk))))) (fun nf full => zf (by decide) (RF 5 (by decide) rfl (nf _ (zt rfl (zt full (hno 5 (by decide))))))) (fun c hc gc hlt hl nf => zt rfl (R_fa hc hlt (nf _ (zt rfl (zf ?_ (zt rfl (M_fa gc hlt ⟨rfl, Inv_fa hI hc hlt hl⟩)))))))
    rw [gc]
    intro z
    have := (nI_eq (b := 10) (by omega) (by omega)).mp z
    omega
  have notb : ∀ {z : Int32}, ¬ z = 0 → ¬ z = 1 → ¬ (z = 0 ∨ z = 1) := fun a b c => c.elim a b
  have inner : (l = 0 ∨ l = 1) → wp_X4_isBit h (fun r12 => (r12 = 0 → wpb_X4_film_22 y l b h (fun r E' F' => wp_X5_film y l b h M (fun r' M' => r' = r ∧ Inv E' N F' IT IF L M')) y b E F) ∧ (¬ r12 = 0 → wpb_X4_film_23 y l b h (fun r E' F' => wp_X5_film y l b h M (fun r' M' => r' = r ∧ Inv E' N F' IT IF L M')) y b 1 E F)) := by
    intro hl
    refine ⟨fun c => ?_, fun c => ⟨fun c2 => ?_, fun c2 => ?_⟩⟩
    · unfold wpb_X4_isBit_9
      exact zf (by decide) (main 1 ⟨fun _ => ⟨hl, Or.inl c⟩, fun _ => by decide⟩)
    · unfold wpb_X4_isBit_9
      exact zf (by decide) (main 1 ⟨fun _ => ⟨hl, Or.inr c2⟩, fun _ => by decide⟩)
    · unfold wpb_X4_film_22
      exact zt rfl (main 0 ⟨fun z => absurd rfl z, fun z => absurd z.2 (notb c c2)⟩)
  refine ⟨fun c => ?_, fun c => ⟨fun c2 => ?_, fun c2 => ?_⟩⟩
  · unfold wpb_X4_isBit_9
    exact zf (by decide) (inner (Or.inl c))
  · unfold wpb_X4_isBit_9
    exact zf (by decide) (inner (Or.inr c2))
  · unfold wpb_X4_film_22
    exact zt rfl (main 0 ⟨fun z => absurd rfl z, fun z => absurd z.1 (notb c c2)⟩)
/-- up to how far a film's custom holds, on both sides -/
theorem film_far {c far l b : Int32} {Q : Int32 → Prop} (hl : l = 0 ∨ l = 1) (hc : ¬ c < 1) (hc2 : ¬ 3 < c) (h : Q (pFilm c far l b)) : wp_X5_filmFar c far l b Q := by
  unfold pFilm at h
  refine ⟨fun c1 => ?_, fun c1 => ⟨fun c3 => ?_, fun c3 => ?_⟩⟩
  · rw [if_neg (by rw [c1]; decide), if_pos c1] at h
    rcases hl with e | e
    · rw [e] at h ⊢
      rw [if_neg (by decide)] at h
      rw [show (4 : Int32) * 0 = 0 from rfl, Int32.add_zero]
      exact h
    · rw [e] at h ⊢
      rw [if_pos rfl] at h
      exact h
  · rw [if_neg (by rw [c3]; decide), if_neg c1, if_pos c3] at h
    exact h
  · have e : c = 1 := by
      rw [zlt] at hc hc2
      rw [zeq] at c1 c3 ⊢
      have e1 : (1 : Int32).toInt = 1 := rfl
      have e2 : (2 : Int32).toInt = 2 := rfl
      have e3 : (3 : Int32).toInt = 3 := rfl
      omega
    rw [if_pos e] at h
    exact h
theorem ok_told {y l b : Int32} (hI : Inv E N F IT IF L M) : wp_X4_told N y l b E F (fun r E' F' => wp_X5_told y l b M (fun r' M' => r' = r ∧ Inv E' N F' IT IF L M')) := by
  have R := hI.1
  have s4 : M 8 ((4 : Int32)).toNatClampNeg = N 0 4 := R.1 4 (by decide)
  have s3 : M 8 ((3 : Int32)).toNatClampNeg = N 0 3 := R.1 3 (by decide)
  have hno : ∀ k : Nat, k < 6 → wpb_X5_told_50 y l b (fun r' M' => r' = -(nI (k + 1)) ∧ Inv (zE1 E k) N F IT IF L M') (-(nI (k + 1))) M := fun k hk => zf (n0 k hk) (MN k hk rfl ⟨rfl, Inv_ref hI k hk⟩)
  have hno2 : ∀ k : Nat, k < 6 → wpb_X5_told_27 y l b (fun r' M' => r' = -(nI (k + 1)) ∧ Inv (zE1 E k) N F IT IF L M') (-(nI (k + 1))) M := fun k hk => zf (n0 k hk) (hno k hk)
  have main : ∀ bits : Int32, (¬ bits = 0 ↔ ((l = 0 ∨ l = 1) ∧ ((0 : Int32) = 0 ∨ (0 : Int32) = 1))) → wp_X4_refusalOfFilm E F y b bits (fun r7 => (r7 = 0 → wp_X3_door N 4 (fun r29 => wp_X4_isFilmCustom r29 (fun r32 => (r32 = 0 → wp_X4_refuse (-3) E (fun r41 S_41 => wp_X5_told y l b M (fun r' M' => r' = r41 ∧ Inv S_41 N F IT IF L M'))) ∧ (¬ r32 = 0 → wp_X3_door N 4 (fun r51 => wp_X3_door N 3 (fun r59 => wp_X4_filmUpTo r51 r59 l b (fun r64 => (r64 < y → wpb_X4_told_75 N y l b (fun r E' F' => wp_X5_told y l b M (fun r' M' => r' = r ∧ Inv E' N F' IT IF L M')) 0 E F) ∧ (¬ r64 < y → wpb_X4_told_75 N y l b (fun r E' F' => wp_X5_told y l b M (fun r' M' => r' = r ∧ Inv E' N F' IT IF L M')) 1 E F)))))))) ∧ (¬ r7 = 0 → wp_X4_refuse r7 E (fun r20 S_20 => wp_X5_told y l b M (fun r' M' => r' = r20 ∧ Inv S_20 N F IT IF L M')))) := by
    intro bits hb
    refine film2 hI hb (fun k hk nf => zf (n0 k hk) (RF k hk rfl (nf _ (zf (n0 k hk) (hno2 k hk))))) (fun nf full => zf (by decide) (RF 5 (by decide) rfl (nf _ (zt rfl (zt full (hno2 5 (by decide))))))) (fun c hc gc hlt hl nf => zt rfl (R_door (k := 4) rfl (by decide) ?_))
    have n14 : ¬ M 14 0 = 10 := by
      rw [gc]
      intro z
      have := (nI_eq (b := 10) (by omega) (by omega)).mp z
      omega
    have bad3 : (N 0 4 < 1 ∨ 3 < N 0 4) → wp_X4_refuse (-3) E (fun r41 S_41 => wp_X5_told y l b M (fun r' M' => r' = r41 ∧ Inv S_41 N F IT IF L M')) := by
      intro z
      refine RF 2 (by decide) rfl (nf _ (zt rfl (zf n14 (zt rfl ⟨vp_in_nI (n := 4) (by decide) (by decide), ?_⟩))))
      rw [s4]
      exact I0 z (zt rfl (hno 2 (by decide)))
    refine ⟨fun c1 => zt rfl (bad3 (Or.inl c1)), fun c1 => ⟨fun c2 => zt rfl (bad3 (Or.inr c2)), fun c2 => zf (by decide) (R_door (k := 4) rfl (by decide) (R_door (k := 3) rfl (by decide) (R_film ?_)))⟩⟩
    have go : ∀ hd : Int32, wpb_X5_told_50 y l b (fun r' M' => r' = hd ∧ Inv E N (zFa F c y l b hd) IT IF L M') 0 M → wpb_X4_told_75 N y l b (fun r E' F' => wp_X5_told y l b M (fun r' M' => r' = r ∧ Inv E' N F' IT IF L M')) hd E F := by
      intro hd hm
      unfold wpb_X4_told_75
      refine R_fa hc hlt (nf _ (zt rfl (zf n14 (zt rfl ⟨vp_in_nI (n := 4) (by decide) (by decide), ?_⟩))))
      rw [s4]
      exact I1 c1 c2 (zf (by decide) hm)
    refine ⟨fun c3 => go 0 (zt rfl ⟨vp_in_nI (n := 4) (by decide) (by decide), vp_in_nI (n := 3) (by decide) (by decide), ?_⟩), fun c3 => go 1 (zt rfl ⟨vp_in_nI (n := 4) (by decide) (by decide), vp_in_nI (n := 3) (by decide) (by decide), ?_⟩)⟩
    · rw [s4, s3]
      refine film_far hl c1 c2 (zt c3 ?_)
      unfold wpb_X5_told_88
      exact M_fa gc hlt ⟨rfl, Inv_fa hI hc hlt hl⟩
    · rw [s4, s3]
      refine film_far hl c1 c2 (zf c3 ?_)
      unfold wpb_X5_told_88
      exact M_fa gc hlt ⟨rfl, Inv_fa hI hc hlt hl⟩
  refine ⟨fun c => ?_, fun c => ⟨fun c2 => ?_, fun c2 => ?_⟩⟩
  · unfold wpb_X4_isBit_9
    exact main 1 ⟨fun _ => ⟨Or.inl c, Or.inl rfl⟩, fun _ => by decide⟩
  · unfold wpb_X4_isBit_9
    exact main 1 ⟨fun _ => ⟨Or.inr c2, Or.inl rfl⟩, fun _ => by decide⟩
  · exact main 0 ⟨fun z => absurd rfl z, fun z => z.1.elim (fun e => absurd e c) (fun e => absurd e c2)⟩
/-- whether all films would be so -/
def zFit (F : zT) (c far : Int32) : Nat → Bool
  | 0 => true
  | k + 1 => zFit F c far k && (decide (F 0 k ≤ pFilm c far (F 1 k) (F 2 k)) == decide (F 3 k = 1))
theorem zFit_no {c far : Int32} {k : Nat} (h : zFit F c far k = false) : ∀ j : Nat, zFit F c far (k + j) = false
  | 0 => h
  | j + 1 => by
    show (zFit F c far (k + j) && _) = false
    rw [zFit_no h j]
    rfl
theorem R_fit {c far : Int32} {n : Nat} {Q : Int32 → Prop} (hn : F 4 0 = nI n) (h10 : n ≤ 10) (h : Q (if zFit F c far n then 1 else 0)) : wp_X0_allAreSo F c far Q := by
  have key : ∀ k i : Nat, i + k = n → zFit F c far i = true → wpl_X0_allAreSo_2 F c far Q (k + 1) (nI i) := by
    intro k
    induction k with
    | zero =>
      intro i hi ht
      have : i = n := by omega
      subst this
      rw [if_pos ht] at h
      exact zt (by rw [hn]; exact Int32.le_refl _) h
    | succ k ih =>
      intro i hi ht
      have hi10 : i < 10 := by omega
      have step : zFit F c far (i + 1) = (decide (F 0 i ≤ pFilm c far (F 1 i) (F 2 i)) == decide (F 3 i = 1)) := by
        show (zFit F c far i && _) = _
        rw [ht]; rfl
      have yes : zFit F c far (i + 1) = true → (∀ y : Int32, y = nI i + 1 → (fun x3 => wpl_X0_allAreSo_2 F c far Q (k + 1) x3) y) := by
        intro z
        rintro _ rfl
        rw [show nI i + (1 : Int32) = nI (i + 1) from nI_1 i]
        exact ih (i + 1) (by omega) z
      have no : zFit F c far (i + 1) = false → Q 0 := by
        intro z
        have := zFit_no z (n - (i + 1))
        rw [show i + 1 + (n - (i + 1)) = n by omega] at this
        rw [this] at h
        exact h
      refine zf (by rw [hn]; exact nI_ge (by omega) (by omega)) (R_at rfl hi10 (by decide) (R_at rfl hi10 (by decide) (R_at rfl hi10 (by decide) (R_film ⟨fun c1 => ?_, fun c1 => ?_⟩))))
      · unfold wpb_X0_allAreSo_47
        have d1 : decide (F 0 i ≤ pFilm c far (F 1 i) (F 2 i)) = false := by simpa using znle.mpr c1
        refine R_at rfl hi10 (by decide) ⟨fun c2 => ?_, fun c2 => ?_⟩
        · exact zf (by decide) (no (by rw [step, d1]; simp [c2]))
        · exact zt rfl (yes (by rw [step, d1]; simp [c2]))
      · unfold wpb_X0_allAreSo_47
        have d1 : decide (F 0 i ≤ pFilm c far (F 1 i) (F 2 i)) = true := by simpa using znl.mp c1
        refine R_at rfl hi10 (by decide) ⟨fun c2 => ?_, fun c2 => ?_⟩
        · exact zt rfl (yes (by rw [step, d1]; simp [c2]))
        · exact zf (by decide) (no (by rw [step, d1]; simp [c2]))
  exact ⟨n + 1, key n 0 (by omega) rfl⟩
theorem M_fit {c far : Int32} {n : Nat} {Q : Int32 → Prop} (hF : zFM F M) (hv : zFv F n) (hc : ¬ c < 1) (hc2 : ¬ 3 < c) (h : Q (if zFit F c far n then 1 else 0)) : wp_X5_doFit M c far Q := by
  obtain ⟨hn, h10, hl⟩ := hv
  have h14 : M 14 0 = nI n := by rw [← hF.2]; exact hn
  have key : ∀ k i : Nat, i + k = n → zFit F c far i = true → wpl_X5_doFit_2 M c far Q (k + 1) (nI i) := by
    intro k
    induction k with
    | zero =>
      intro i hi ht
      have : i = n := by omega
      subst this
      rw [if_pos ht] at h
      exact zt (by rw [h14]; exact Int32.le_refl _) h
    | succ k ih =>
      intro i hi ht
      have hi10 : i < 10 := by omega
      have vi : vp_in (nI i) 10 := vp_in_nI hi10 (by decide)
      obtain ⟨f0, f1, f2, f3⟩ := hF.1 i hi10
      have step : zFit F c far (i + 1) = (decide (F 0 i ≤ pFilm c far (F 1 i) (F 2 i)) == decide (F 3 i = 1)) := by
        show (zFit F c far i && _) = _
        rw [ht]; rfl
      have yes : zFit F c far (i + 1) = true → (∀ y : Int32, y = nI i + 1 → (fun x3 => wpl_X5_doFit_2 M c far Q (k + 1) x3) y) := by
        intro z
        rintro _ rfl
        rw [show nI i + (1 : Int32) = nI (i + 1) from nI_1 i]
        exact ih (i + 1) (by omega) z
      have no : zFit F c far (i + 1) = false → Q 0 := by
        intro z
        have := zFit_no z (n - (i + 1))
        rw [show i + 1 + (n - (i + 1)) = n by omega] at this
        rw [this] at h
        exact h
      refine zf (by rw [h14]; exact nI_ge (by omega) (by omega)) ⟨vi, vi, vi, ?_⟩
      rw [zcl (by omega), ← f0, ← f1, ← f2]
      refine film_far (hl i (by omega)) hc hc2 ⟨fun c1 => ⟨vi, ?_⟩, fun c1 => ⟨vi, ?_⟩⟩
      · have d1 : decide (F 0 i ≤ pFilm c far (F 1 i) (F 2 i)) = false := by simpa using znle.mpr c1
        rw [zcl (by omega), ← f3]
        refine ⟨fun c2 => ?_, fun c2 => ?_⟩
        · exact zf (by decide) (no (by rw [step, d1]; simp [c2]))
        · exact zt rfl (yes (by rw [step, d1]; simp [c2]))
      · have d1 : decide (F 0 i ≤ pFilm c far (F 1 i) (F 2 i)) = true := by simpa using znl.mp c1
        rw [zcl (by omega), ← f3]
        refine ⟨fun c2 => ?_, fun c2 => ?_⟩
        · exact zt rfl (yes (by rw [step, d1]; simp [c2]))
        · exact zf (by decide) (no (by rw [step, d1]; simp [c2]))
  exact ⟨n + 1, key n 0 (by omega) rfl⟩
/-- how many FARS fit, the least, the greatest, among those below f -/
def zFt (F : zT) (c : Int32) (n : Nat) : Nat → Nat × Int32 × Int32
  | 0 => (0, -9, -9)
  | f + 1 => if zFit F c (nI f) n then ((zFt F c n f).1 + 1, (if (zFt F c n f).1 = 0 then nI f else (zFt F c n f).2.1), nI f) else zFt F c n f
theorem zFt_le {c : Int32} {n : Nat} : ∀ f : Nat, (zFt F c n f).1 ≤ f ∧ (f < 1000 → ((zFt F c n f).1 = 0 ↔ (zFt F c n f).2.1 < 0))
  | 0 => ⟨Nat.le_refl _, fun _ => ⟨fun _ => by show (-9 : Int32) < 0; decide, fun _ => rfl⟩⟩
  | f + 1 => by
    obtain ⟨h1, h2⟩ := zFt_le (c := c) (n := n) f
    by_cases z : zFit F c (nI f) n = true
    · have e : zFt F c n (f + 1) = ((zFt F c n f).1 + 1, (if (zFt F c n f).1 = 0 then nI f else (zFt F c n f).2.1), nI f) := if_pos z
      rw [e]
      refine ⟨by show (zFt F c n f).1 + 1 ≤ f + 1; omega, fun hf => ⟨fun q => ?_, fun q => ?_⟩⟩
      · exact absurd q (Nat.succ_ne_zero _)
      · exfalso
        have h2' := h2 (by omega)
        have q' : (if (zFt F c n f).1 = 0 then nI f else (zFt F c n f).2.1) < 0 := q
        by_cases y : (zFt F c n f).1 = 0
        · rw [if_pos y] at q'; exact nI_pos (by omega) q'
        · rw [if_neg y] at q'; exact y (h2'.mpr q')
    · have e : zFt F c n (f + 1) = zFt F c n f := if_neg z
      rw [e]
      exact ⟨by omega, fun hf => h2 (by omega)⟩
end OK4

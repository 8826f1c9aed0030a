abbrev zT : Type := Nat → Nat → Int32
abbrev zCl : List vw_C := [(RX0, TX0, 5), (RX1, TX1, 11), (RX2, TX2, 5), (RX3, TX3, 3), (RX4, TX4, 12), (RX5, TX5, 41)]
abbrev zA (cy : ClassId) : List (ClassId × FieldType) := [(cy, .int)]
theorem zP_h {D : va_G} {ws : va_W} {H : Heap} {t : State} (ht : t.heap = H) (hP : va_P D zCl ws H) : va_P D zCl ws t.heap := by rw [ht]; exact hP
/-- a reader's world -/
def zR (D : va_G) (cy : ClassId) (ws : va_W) : State → Prop := fun U => va_P D zCl ws U.heap ∧ va_K D zCl (zA cy) U ∧ ∀ w ∈ zN, va_Nw w U
/-- a writer's world -/
def zM (D : va_G) (cy : ClassId) (ws : va_W) (sz : Nat) : State → Prop := fun U => U.heap.size = sz ∧ va_P D zCl ws U.heap ∧ va_K D zCl (zA cy) U ∧ (∀ w ∈ zN, va_Nw w U) ∧ va_D (fun _ => True) ws
theorem zNw {s U : State} (hW : s.WarmedH U.vm) (h : ∀ w ∈ zN, va_Nw w s) : ∀ w ∈ zN, va_Nw w U := by
  intro w hw
  have hb := zN_nest w hw
  have h1 := h w hw
  cases w with
  | fieldLinkNest a i b n d q => exact va_Nw.warmF hW h1
  | methodLinkNest a i x q => exact va_Nw.warmM hW h1
  | _ => cases hb
theorem zNc {U : State} {g : JFrame} {mk : MethodId} {a : Array Value} (h : ∀ w ∈ zN, va_Nw w U) : ∀ w ∈ zN, va_Nw w (U.calling g mk a) := fun w hw => va_Nw.same (zN_tab w hw) (u := U) (U := U.calling g mk a) rfl (h w hw)
theorem zR_blind {D : va_G} {cy : ClassId} {ws : va_W} {av : List Value} : FrameBlind (va_Pc av (zR D cy ws)) := fun a U g mk q => by
  obtain ⟨q0, qP, qK, qN⟩ := q
  exact ⟨q0, qP, va_K.moved (u := U) (U := U.calling g mk a) (Vm.Alike.refl U.vm) qK, zNc qN⟩
theorem zM_blind {D : va_G} {cy : ClassId} {ws : va_W} {sz : Nat} {av : List Value} : FrameBlind (va_Pc av (zM D cy ws sz)) := fun a U g mk q => by
  obtain ⟨q0, q1, qP, qK, qN, qD⟩ := q
  exact ⟨q0, q1, qP, va_K.moved (u := U) (U := U.calling g mk a) (Vm.Alike.refl U.vm) qK, zNc qN, qD⟩
theorem zR_pre {D : va_G} {cy : ClassId} {ws : va_W} {av : List Value} {s : State} {H : Heap} (hP : va_P D zCl ws H) (hK : va_K D zCl (zA cy) s) (hN : ∀ w ∈ zN, va_Nw w s) : ∀ U : State, U.heap = H → s.WarmedH U.vm → va_Pc av (zR D cy ws) av.toArray U := fun U hU hW => ⟨rfl, by rw [hU]; exact hP, va_K.moved hW.alike hK, zNw hW hN⟩
theorem zM_pre {D : va_G} {cy : ClassId} {ws : va_W} {av : List Value} {s : State} {H : Heap} {A : Nat → Prop} (hP : va_P D zCl ws H) (hK : va_K D zCl (zA cy) s) (hN : ∀ w ∈ zN, va_Nw w s) (hD : va_D A ws) : ∀ U : State, U.heap = H → s.WarmedH U.vm → va_Pc av (zM D cy ws H.size) av.toArray U := fun U hU hW => ⟨rfl, by rw [hU], by rw [hU]; exact hP, va_K.moved hW.alike hK, zNw hW hN, hD.weaken (fun _ _ _ _ => trivial)⟩
theorem zD_eq {A : Nat → Prop} {w w' : va_W} (h : va_D A w) (e : w'.map Prod.fst = w.map Prod.fst) : va_D A w' := by
  have key : ∀ (k : Nat) (q : Nat × va_E), w'[k]? = some q → ∃ q' : Nat × va_E, w[k]? = some q' ∧ q'.1 = q.1 := by
    intro k q hq
    have h1 : (w'.map Prod.fst)[k]? = some q.1 := by rw [List.getElem?_map, hq]; rfl
    rw [e, List.getElem?_map] at h1
    cases hw : w[k]? with
    | none => rw [hw] at h1; cases h1
    | some q' => rw [hw] at h1; exact ⟨q', rfl, Option.some.inj h1⟩
  refine ⟨fun i j p q hi hj hpq => ?_, fun k q hk => ?_⟩
  · obtain ⟨p', hp, ep⟩ := key i p hi
    obtain ⟨q', hq, eq⟩ := key j q hj
    exact h.1 i j p' q' hp hq (by rw [ep, eq]; exact hpq)
  · obtain ⟨q', hq, eq⟩ := key k q hk
    rw [← eq]
    exact h.2 k q' hq
theorem zg_B : ∀ w ∈ zB, w ∈ zB ∧ ((w.onTables && w.keeps) = true ∨ ∃ ty, w = .arrayClass ty) := fun w h => ⟨h, good_of_word (List.mem_filter.mp h).2⟩
theorem zgN {w : Cond} (h : w ∈ zB) : GoodIn zB (w :: zB) := fun x hx => (List.mem_cons.mp hx).elim (fun e => by rw [e]; exact zg_B w h) (fun h => zg_B x h)
theorem zgV {own C : String} {idx : Nat} {y : MethodName} {w : Cond} (h1 : Cond.methodLink own idx y ∈ zB) (h2 : Cond.instanceMethod y ∈ zB) (h3 : Cond.selects C y y ∈ zB) (h4 : Cond.initialized C ∈ zB) (h5 : w ∈ zB) : GoodIn zB (wsV own idx C y (w :: zB)) := by
  intro x hx
  rcases List.mem_append.mp (show x ∈ ([.methodLink own idx y, .instanceMethod y, .selects C y y, .initialized C] : List Cond) ++ (w :: zB) from hx) with h | h
  · simp only [List.mem_cons, List.not_mem_nil, or_false] at h
    rcases h with rfl | rfl | rfl | rfl
    · exact zg_B _ h1
    · exact zg_B _ h2
    · exact zg_B _ h3
    · exact zg_B _ h4
  · exact zgN h5 x h
theorem zgS {own : String} {idx : Nat} {y : MethodName} {w : Cond} (h1 : Cond.methodLink own idx y ∈ zB) (h2 : Cond.static y ∈ zB) (h4 : Cond.initialized own ∈ zB) (h5 : w ∈ zB) : GoodIn zB (wsS own idx y (w :: zB)) := by
  intro x hx
  rcases List.mem_append.mp (show x ∈ ([.methodLink own idx y, .static y, .initialized own] : List Cond) ++ (w :: zB) from hx) with h | h
  · simp only [List.mem_cons, List.not_mem_nil, or_false] at h
    rcases h with rfl | rfl | rfl
    · exact zg_B _ h1
    · exact zg_B _ h2
    · exact zg_B _ h4
  · exact zgN h5 x h
section ZOF
variable {l : Launch} {y : MethodName} {b : ByteArray} {maxL : Nat} {ret : Option FieldType} {rm : Room} {av : List Value} {D : va_G} {cy : ClassId}
theorem zOf_r {ws : va_W} {post : Int32 → Prop} (hy : plainName y.cls = true) (hn : (lg_sl av).length ≤ maxL)
    (body : ∀ (p : Program) (e : Env) (s : State) (m : MethodId) (below : List Frame) (meth : Method) (c : Code) (ls : Array Slot), p.tables.exec = Jvm.exec → c.code = b → meth.sig.returnType = ret → c.maxLocals = maxL → s.vm.findClass y.cls = some m.cls → (∀ w ∈ zB, w.before av.toArray s = true) → meth.locks = false → va_K D zCl (zA cy) s → (∀ w ∈ zN, va_Nw w s) → va_P D zCl ws s.heap → lv_has ls maxL (lv_args 0 av) →
      W p l e rm s m av.toArray below meth c s.heap [] 0 0 (MQ below (vp_Si post) av.toArray s 0 0 (fun _ => False)) (F0 m 0 ls [])) :
    Met l y (Cond.code y b maxL ret :: zB) rm (va_Pc av (zR D cy ws)) (vp_Si post) 0 0 (fun _ => False) := by
  refine Met.ofW (cc := b) (maxL := maxL) (ret := ret) hy rfl ?_
  intro p e s m args below meth c s₁ B hml hv
  obtain ⟨rfl, hP, hK, hN⟩ := hv
  have hts := atoms_spec (ws := Cond.code y b maxL ret :: zB) B.pre
  rw [lg_entry_eq]
  exact body p e s m below meth c _ B.exec B.bytes B.returns hml (findClass_of_methodNamed B.named) (fun w h => hts w (List.mem_cons_of_mem _ h)) B.notSynchronized hK hN hP (lv_entry av hn)
theorem zOf_i {S : Type} {wsf : S → va_W} {w0 : va_W} {post : Int32 → S → Prop} {sz : Nat} (hy : plainName y.cls = true) (hn : (lg_sl av).length ≤ maxL)
    (body : ∀ (p : Program) (e : Env) (s : State) (m : MethodId) (below : List Frame) (meth : Method) (c : Code) (ls : Array Slot) (A : Nat → Prop) (H : Heap) (locs : List Loc), p.tables.exec = Jvm.exec → c.code = b → meth.sig.returnType = ret → c.maxLocals = maxL → s.vm.findClass y.cls = some m.cls → (∀ w ∈ zB, w.before av.toArray s = true) → meth.locks = false → va_K D zCl (zA cy) s → (∀ w ∈ zN, va_Nw w s) → va_P D zCl w0 H → va_D A w0 → va_S A s.heap H locs → (∀ q : Nat, s.heap.size ≤ q → A q) → lv_has ls maxL (lv_args 0 av) →
      W p l e rm s m av.toArray below meth c H locs 0 0 (MQ below (va_Qi post (fun u t => va_P D zCl (wsf u) t.heap) A) av.toArray s 0 0 A) (F0 m 0 ls [])) :
    Met l y (Cond.code y b maxL ret :: zB) rm (va_Pc av (zM D cy w0 sz)) (va_Qi post (fun u t => va_P D zCl (wsf u) t.heap) (va_A w0 sz)) 0 0 (va_A w0 sz) := by
  refine Met.ofW (cc := b) (maxL := maxL) (ret := ret) hy rfl ?_
  intro p e s m args below meth c s₁ B hml hv
  obtain ⟨rfl, hsz, hP, hK, hN, hD⟩ := hv
  subst hsz
  have hts := atoms_spec (ws := Cond.code y b maxL ret :: zB) B.pre
  rw [lg_entry_eq]
  exact body p e s m below meth c _ (va_A w0 s.heap.size) s.heap [] B.exec B.bytes B.returns hml (findClass_of_methodNamed B.named) (fun w h => hts w (List.mem_cons_of_mem _ h)) B.notSynchronized hK hN hP hD.self va_S.rf (fun q h => Or.inr h) (lv_entry av hn)
theorem zOf_v {S : Type} {wsf : S → va_W} {w0 : va_W} {post : S → Prop} {sz : Nat} (hy : plainName y.cls = true) (hn : (lg_sl av).length ≤ maxL)
    (body : ∀ (p : Program) (e : Env) (s : State) (m : MethodId) (below : List Frame) (meth : Method) (c : Code) (ls : Array Slot) (A : Nat → Prop) (H : Heap) (locs : List Loc), p.tables.exec = Jvm.exec → c.code = b → meth.sig.returnType = ret → c.maxLocals = maxL → s.vm.findClass y.cls = some m.cls → (∀ w ∈ zB, w.before av.toArray s = true) → meth.locks = false → va_K D zCl (zA cy) s → (∀ w ∈ zN, va_Nw w s) → va_P D zCl w0 H → va_D A w0 → va_S A s.heap H locs → (∀ q : Nat, s.heap.size ≤ q → A q) → lv_has ls maxL (lv_args 0 av) →
      W p l e rm s m av.toArray below meth c H locs 0 0 (MQ below (va_Qv post (fun u t => va_P D zCl (wsf u) t.heap) A) av.toArray s 0 0 A) (F0 m 0 ls [])) :
    Met l y (Cond.code y b maxL ret :: zB) rm (va_Pc av (zM D cy w0 sz)) (va_Qv post (fun u t => va_P D zCl (wsf u) t.heap) (va_A w0 sz)) 0 0 (va_A w0 sz) := by
  refine Met.ofW (cc := b) (maxL := maxL) (ret := ret) hy rfl ?_
  intro p e s m args below meth c s₁ B hml hv
  obtain ⟨rfl, hsz, hP, hK, hN, hD⟩ := hv
  subst hsz
  have hts := atoms_spec (ws := Cond.code y b maxL ret :: zB) B.pre
  rw [lg_entry_eq]
  exact body p e s m below meth c _ (va_A w0 s.heap.size) s.heap [] B.exec B.bytes B.returns hml (findClass_of_methodNamed B.named) (fun w h => hts w (List.mem_cons_of_mem _ h)) B.notSynchronized hK hN hP hD.self va_S.rf (fun q h => Or.inr h) (lv_entry av hn)
end ZOF
section ZC
variable {p : Program} {l : Launch} {e : Env} {R : Room} {s : State} {m : MethodId} {args : Array Value} {below : List Frame} {meth : Method} {c : Code} {H : Heap} {locs : List Loc} {Q : State → Prop} {pc : Nat} {ls : Array Slot} {rest st0 : List Value} {a : Array Value} {A : Nat → Prop} {H0 : Heap} {D : va_G}
theorem zc_r {post : Int32 → Prop} (hr : va_Run p l e R s m args below meth c H locs 0 0 0 0 (F0 m pc ls st0) rest (vp_Si post a) (fun _ => False))
    (kk : ∀ r : Int32, post r → W p l e R s m args below meth c H locs 0 0 Q (F0 m (pc + 3) ls (.int r :: rest))) : W p l e R s m args below meth c H locs 0 0 Q (F0 m pc ls st0) := by
  intro T hT X
  obtain ⟨v, st₀, t, T', L, h0, X', hL, e1, e2, ⟨r, hv, hp, hh⟩, st⟩ := hr T hT X
  cases hv
  obtain ⟨t2, a1, b1⟩ := kk r hp T' (by rw [e1, hh, h0]) (Stand.forget X' (fun q h => (hL q h).elim))
  exact ⟨t2, st t2 a1, b1⟩
theorem zc_i {S : Type} {post : Int32 → S → Prop} {w1 ws' : S → va_W} {ws wc : va_W} (hr : va_Run p l e R s m args below meth c H locs 0 0 0 0 (F0 m pc ls st0) rest (va_Qi post (fun u t => va_P D zCl (w1 u) t.heap) (va_A wc H.size) a) (va_A wc H.size))
    (hS : va_S A H0 H locs) (hA : ∀ q : Nat, H0.size ≤ q → A q) (hP : va_P D zCl ws H) (hD : va_D A ws) (isC isR perm : List Nat) (hnR : va_nd isR = true) (hR : isR.map (fun i => ws[i]?) = (isR.filterMap (fun i => ws[i]?)).map some) (hdis : ∀ i ∈ isR, i ∉ isC) (hnC : va_nd isC = true) (hC : isC.map (fun i => ws[i]?) = wc.map some)
    (hw : ∀ u, perm.filterMap (fun i => (isR.filterMap (fun i => ws[i]?) ++ w1 u)[i]?) = ws' u) (ha1 : ∀ u, (w1 u).map Prod.fst = wc.map Prod.fst) (ha : ∀ u, (ws' u).map Prod.fst = ws.map Prod.fst)
    (kk : ∀ (r : Int32) (u : S) (H1 : Heap) (locs1 : List Loc), post r u → va_P D zCl (ws' u) H1 → va_D A (ws' u) → va_S A H0 H1 locs1 → W p l e R s m args below meth c H1 locs1 0 0 Q (F0 m (pc + 3) ls (.int r :: rest))) : W p l e R s m args below meth c H locs 0 0 Q (F0 m pc ls st0) := by
  have hF := va_free (wc := wc) hD hS hA isC hC
  refine va_calli hr hS (fun q _ h => hF q h) hF (fun r u t H1 locs1 ht hvm hp hB hz hk hS1 => ?_)
  rw [ht] at hB
  have hD1 : va_D (va_A wc H.size) (w1 u) := zD_eq ((hD.sub isC hnC hC).self) (ha1 u)
  obtain ⟨hP2, -⟩ := va_join (wr := isR.filterMap (fun i => ws[i]?)) (w1 := w1 u) hP hD isC isR hC hR hnR hdis hk hF hB hD1
  exact kk r u H1 locs1 hp (hP2.sub perm (hw u)) (zD_eq hD (ha u)) hS1
theorem zc_v {S : Type} {post : S → Prop} {w1 ws' : S → va_W} {ws wc : va_W} (hr : va_Run p l e R s m args below meth c H locs 0 0 0 0 (F0 m pc ls st0) rest (va_Qv post (fun u t => va_P D zCl (w1 u) t.heap) (va_A wc H.size) a) (va_A wc H.size))
    (hS : va_S A H0 H locs) (hA : ∀ q : Nat, H0.size ≤ q → A q) (hP : va_P D zCl ws H) (hD : va_D A ws) (isC isR perm : List Nat) (hnR : va_nd isR = true) (hR : isR.map (fun i => ws[i]?) = (isR.filterMap (fun i => ws[i]?)).map some) (hdis : ∀ i ∈ isR, i ∉ isC) (hnC : va_nd isC = true) (hC : isC.map (fun i => ws[i]?) = wc.map some)
    (hw : ∀ u, perm.filterMap (fun i => (isR.filterMap (fun i => ws[i]?) ++ w1 u)[i]?) = ws' u) (ha1 : ∀ u, (w1 u).map Prod.fst = wc.map Prod.fst) (ha : ∀ u, (ws' u).map Prod.fst = ws.map Prod.fst)
    (kk : ∀ (u : S) (H1 : Heap) (locs1 : List Loc), post u → va_P D zCl (ws' u) H1 → va_D A (ws' u) → va_S A H0 H1 locs1 → W p l e R s m args below meth c H1 locs1 0 0 Q (F0 m (pc + 3) ls rest)) : W p l e R s m args below meth c H locs 0 0 Q (F0 m pc ls st0) := by
  have hF := va_free (wc := wc) hD hS hA isC hC
  refine va_callv hr hS (fun q _ h => hF q h) hF (fun u t H1 locs1 ht hvm hp hB hz hk hS1 => ?_)
  rw [ht] at hB
  have hD1 : va_D (va_A wc H.size) (w1 u) := zD_eq ((hD.sub isC hnC hC).self) (ha1 u)
  obtain ⟨hP2, -⟩ := va_join (wr := isR.filterMap (fun i => ws[i]?)) (w1 := w1 u) hP hD isC isR hC hR hnR hdis hk hF hB hD1
  exact kk u H1 locs1 hp (hP2.sub perm (hw u)) (zD_eq hD (ha u)) hS1
theorem zfree {ws : va_W} (hS : va_S A H0 H locs) (hA : ∀ q : Nat, H0.size ≤ q → A q) (hD : va_D A ws) : ∀ q, va_A ws H.size q → A q := by
  intro q h
  rcases h with ⟨k, e, h⟩ | h
  · exact hD.2 k (q, e) h
  · exact hA q (Nat.le_trans hS.1 h)
theorem zc_if {S : Type} {post : Int32 → S → Prop} {w1 ws' : S → va_W} {ws : va_W} (hr : va_Run p l e R s m args below meth c H locs 0 0 0 0 (F0 m pc ls st0) rest (va_Qi post (fun u t => va_P D zCl (w1 u) t.heap) (va_A ws H.size) a) (va_A ws H.size))
    (hS : va_S A H0 H locs) (hA : ∀ q : Nat, H0.size ≤ q → A q) (hP : va_P D zCl ws H) (hD : va_D A ws) (hw : ∀ u, w1 u = ws' u) (ha : ∀ u, (ws' u).map Prod.fst = ws.map Prod.fst)
    (kk : ∀ (r : Int32) (u : S) (H1 : Heap) (locs1 : List Loc), post r u → va_P D zCl (ws' u) H1 → va_D A (ws' u) → va_S A H0 H1 locs1 → W p l e R s m args below meth c H1 locs1 0 0 Q (F0 m (pc + 3) ls (.int r :: rest))) : W p l e R s m args below meth c H locs 0 0 Q (F0 m pc ls st0) := by
  have hF := zfree hS hA hD
  refine va_calli hr hS (fun q _ h => hF q h) hF (fun r u t H1 locs1 ht hvm hp hB hz hk hS1 => ?_)
  rw [ht, hw] at hB
  exact kk r u H1 locs1 hp hB (zD_eq hD (ha u)) hS1
theorem zc_vf {S : Type} {post : S → Prop} {w1 ws' : S → va_W} {ws : va_W} (hr : va_Run p l e R s m args below meth c H locs 0 0 0 0 (F0 m pc ls st0) rest (va_Qv post (fun u t => va_P D zCl (w1 u) t.heap) (va_A ws H.size) a) (va_A ws H.size))
    (hS : va_S A H0 H locs) (hA : ∀ q : Nat, H0.size ≤ q → A q) (hP : va_P D zCl ws H) (hD : va_D A ws) (hw : ∀ u, w1 u = ws' u) (ha : ∀ u, (ws' u).map Prod.fst = ws.map Prod.fst)
    (kk : ∀ (u : S) (H1 : Heap) (locs1 : List Loc), post u → va_P D zCl (ws' u) H1 → va_D A (ws' u) → va_S A H0 H1 locs1 → W p l e R s m args below meth c H1 locs1 0 0 Q (F0 m (pc + 3) ls rest)) : W p l e R s m args below meth c H locs 0 0 Q (F0 m pc ls st0) := by
  have hF := zfree hS hA hD
  refine va_callv hr hS (fun q _ h => hF q h) hF (fun u t H1 locs1 ht hvm hp hB hz hk hS1 => ?_)
  rw [ht, hw] at hB
  exact kk u H1 locs1 hp hB (zD_eq hD (ha u)) hS1
end ZC
abbrev bX0 (a : Nat → Nat) (cy : ClassId) (S : zT) : va_W := [(a 99, .inr (0, [.ref (a 0), .ref (a 1), .ref (a 2), .ref (a 3), .int (S 4 0)])), (a 0, .inl (cy, 10, .inl (S 0))), (a 1, .inl (cy, 10, .inl (S 1))), (a 2, .inl (cy, 10, .inl (S 2))), (a 3, .inl (cy, 10, .inl (S 3)))]
abbrev bX1 (a : Nat → Nat) (cy : ClassId) (S : zT) : va_W := [(a 99, .inr (1, [.ref (a 0), .ref (a 1), .ref (a 2), .ref (a 3), .ref (a 4), .ref (a 5), .ref (a 6), .ref (a 7), .ref (a 8), .ref (a 9), .int (S 10 0)])), (a 0, .inl (cy, 8, .inl (S 0))), (a 1, .inl (cy, 8, .inl (S 1))), (a 2, .inl (cy, 8, .inl (S 2))), (a 3, .inl (cy, 8, .inl (S 3))), (a 4, .inl (cy, 8, .inl (S 4))), (a 5, .inl (cy, 8, .inl (S 5))), (a 6, .inl (cy, 8, .inl (S 6))), (a 7, .inl (cy, 8, .inl (S 7))), (a 8, .inl (cy, 8, .inl (S 8))), (a 9, .inl (cy, 8, .inl (S 9)))]
abbrev bX2 (a : Nat → Nat) (cy : ClassId) (S : zT) : va_W := [(a 99, .inr (2, [.ref (a 0), .int (S 1 0), .int (S 2 0), .int (S 3 0), .ref (a 4)])), (a 0, .inl (cy, 80, .inl (S 0))), (a 4, .inl (cy, 7, .inl (S 4)))]
abbrev bX3 (a : Nat → Nat) (cy : ClassId) (S : zT) : va_W := [(a 99, .inr (3, [.ref (a 0), .ref (a 1), .int (S 2 0)])), (a 0, .inl (cy, 5, .inl (S 0))), (a 1, .inl (cy, 56, .inl (S 1)))]
abbrev bX4 (a : Nat → Nat) (an am af ai aj al ag : Nat → Nat) (cy : ClassId) (S : zT) : va_W := [(a 99, .inr (4, [.ref (an 99), .ref (am 99), .ref (af 99), .ref (ai 99), .ref (aj 99), .int (S 5 0), .ref (al 99), .ref (ag 99), .ref (a 8), .ref (a 9), .int (S 10 0), .ref (a 11)])), (a 8, .inl (cy, 8, .inl (S 8))), (a 9, .inl (cy, 8, .inl (S 9))), (a 11, .inl (cy, 6, .inl (S 11)))]
abbrev bX5 (a : Nat → Nat) (cy : ClassId) (S : zT) : va_W := [(a 99, .inr (5, [.ref (a 0), .ref (a 1), .ref (a 2), .ref (a 3), .ref (a 4), .ref (a 5), .ref (a 6), .ref (a 7), .ref (a 8), .ref (a 9), .ref (a 10), .ref (a 11), .ref (a 12), .int (S 13 0), .int (S 14 0), .ref (a 15), .ref (a 16), .ref (a 17), .ref (a 18), .int (S 19 0), .int (S 20 0), .int (S 21 0), .ref (a 22), .int (S 23 0), .int (S 24 0), .int (S 25 0), .ref (a 26), .ref (a 27), .ref (a 28), .ref (a 29), .ref (a 30), .ref (a 31), .ref (a 32), .ref (a 33), .ref (a 34), .int (S 35 0), .int (S 36 0), .int (S 37 0), .ref (a 38), .ref (a 39), .int (S 40 0)])), (a 0, .inl (cy, 7, .inl (S 0))), (a 1, .inl (cy, 8, .inl (S 1))), (a 2, .inl (cy, 8, .inl (S 2))), (a 3, .inl (cy, 8, .inl (S 3))), (a 4, .inl (cy, 8, .inl (S 4))), (a 5, .inl (cy, 8, .inl (S 5))), (a 6, .inl (cy, 8, .inl (S 6))), (a 7, .inl (cy, 8, .inl (S 7))), (a 8, .inl (cy, 5, .inl (S 8))), (a 9, .inl (cy, 10, .inl (S 9))), (a 10, .inl (cy, 10, .inl (S 10))), (a 11, .inl (cy, 10, .inl (S 11))), (a 12, .inl (cy, 10, .inl (S 12))), (a 15, .inl (cy, 80, .inl (S 15))), (a 16, .inl (cy, 40, .inl (S 16))), (a 17, .inl (cy, 40, .inl (S 17))), (a 18, .inl (cy, 320, .inl (S 18))), (a 22, .inl (cy, 220, .inl (S 22))), (a 26, .inl (cy, 8, .inl (S 26))), (a 27, .inl (cy, 8, .inl (S 27))), (a 28, .inl (cy, 8, .inl (S 28))), (a 29, .inl (cy, 8, .inl (S 29))), (a 30, .inl (cy, 8, .inl (S 30))), (a 31, .inl (cy, 8, .inl (S 31))), (a 32, .inl (cy, 8, .inl (S 32))), (a 33, .inl (cy, 8, .inl (S 33))), (a 34, .inl (cy, 8, .inl (S 34))), (a 38, .inl (cy, 8, .inl (S 38))), (a 39, .inl (cy, 8, .inl (S 39)))]
abbrev rm_X4_put : Room := { frames := 0, cells := 0, slots := 0, locals := 0 }
abbrev w_X4_put : List Cond := Cond.code yX4_put cX4_put 3 none :: zB
abbrev rm_X0_add : Room := { frames := 1, cells := 0, slots := 0, locals := 22 }
abbrev w_X0_add : List Cond := Cond.code yX0_add cX0_add 5 none :: zB
abbrev rm_X4_copyRow : Room := { frames := 0, cells := 0, slots := 0, locals := 0 }
abbrev w_X4_copyRow : List Cond := Cond.code yX4_copyRow cX4_copyRow 3 none :: zB
abbrev rm_X0_become : Room := { frames := 1, cells := 0, slots := 0, locals := 22 }
abbrev w_X0_become : List Cond := Cond.code yX0_become cX0_become 2 none :: zB
abbrev rm_X4_at : Room := { frames := 0, cells := 0, slots := 0, locals := 0 }
abbrev w_X4_at : List Cond := Cond.code yX4_at cX4_at 2 (some FieldType.int) :: zB
abbrev rm_X4_filmUpTo : Room := { frames := 0, cells := 0, slots := 0, locals := 0 }
abbrev w_X4_filmUpTo : List Cond := Cond.code yX4_filmUpTo cX4_filmUpTo 4 (some FieldType.int) :: zB
abbrev rm_X0_allAreSo : Room := { frames := 1, cells := 0, slots := 0, locals := 23 }
abbrev w_X0_allAreSo : List Cond := Cond.code yX0_allAreSo cX0_allAreSo 5 (some FieldType.boolean) :: zB
abbrev rm_X1_findNext : Room := { frames := 1, cells := 0, slots := 0, locals := 21 }
abbrev w_X1_findNext : List Cond := Cond.code yX1_findNext cX1_findNext 5 (some FieldType.int) :: zB
abbrev rm_X1_goneAt : Room := { frames := 1, cells := 0, slots := 0, locals := 21 }
abbrev w_X1_goneAt : List Cond := Cond.code yX1_goneAt cX1_goneAt 2 (some FieldType.int) :: zB
abbrev rm_X3_of : Room := { frames := 0, cells := 0, slots := 0, locals := 0 }
abbrev w_X3_of : List Cond := Cond.code yX3_of cX3_of 4 (some FieldType.int) :: zB
abbrev rm_X3_door : Room := { frames := 0, cells := 0, slots := 0, locals := 0 }
abbrev w_X3_door : List Cond := Cond.code yX3_door cX3_door 2 (some FieldType.int) :: zB
abbrev rm_X3_secondsToOpen : Room := { frames := 1, cells := 0, slots := 0, locals := 23 }
abbrev w_X3_secondsToOpen : List Cond := Cond.code yX3_secondsToOpen cX3_secondsToOpen 3 (some FieldType.int) :: zB
abbrev rm_X3_yardsHeldFor : Room := { frames := 1, cells := 0, slots := 0, locals := 23 }
abbrev w_X3_yardsHeldFor : List Cond := Cond.code yX3_yardsHeldFor cX3_yardsHeldFor 3 (some FieldType.int) :: zB
abbrev rm_X1_comeThrough : Room := { frames := 2, cells := 0, slots := 0, locals := 45 }
abbrev w_X1_comeThrough : List Cond := Cond.code yX1_comeThrough cX1_comeThrough 10 none :: zB
abbrev rm_X3_yardsToGo : Room := { frames := 1, cells := 0, slots := 0, locals := 23 }
abbrev w_X3_yardsToGo : List Cond := Cond.code yX3_yardsToGo cX3_yardsToGo 3 (some FieldType.int) :: zB
abbrev rm_X3_holdsUpTo : Room := { frames := 1, cells := 0, slots := 0, locals := 23 }
abbrev w_X3_holdsUpTo : List Cond := Cond.code yX3_holdsUpTo cX3_holdsUpTo 6 (some FieldType.int) :: zB
abbrev rm_X4_divideUp : Room := { frames := 0, cells := 0, slots := 0, locals := 0 }
abbrev w_X4_divideUp : List Cond := Cond.code yX4_divideUp cX4_divideUp 2 (some FieldType.int) :: zB
abbrev rm_X1_secondsHeldFor : Room := { frames := 2, cells := 0, slots := 0, locals := 48 }
abbrev w_X1_secondsHeldFor : List Cond := Cond.code yX1_secondsHeldFor cX1_secondsHeldFor 6 (some FieldType.int) :: zB
abbrev rm_X3_thereFrom : Room := { frames := 1, cells := 0, slots := 0, locals := 23 }
abbrev w_X3_thereFrom : List Cond := Cond.code yX3_thereFrom cX3_thereFrom 2 (some FieldType.int) :: zB
abbrev rm_X1_run : Room := { frames := 3, cells := 0, slots := 0, locals := 74 }
abbrev w_X1_run : List Cond := Cond.code yX1_run cX1_run 7 none :: zB
abbrev rm_X1_lossOfAll : Room := { frames := 1, cells := 0, slots := 0, locals := 21 }
abbrev w_X1_lossOfAll : List Cond := Cond.code yX1_lossOfAll cX1_lossOfAll 3 (some FieldType.int) :: zB
abbrev rm_X1_countHeldFor : Room := { frames := 1, cells := 0, slots := 0, locals := 21 }
abbrev w_X1_countHeldFor : List Cond := Cond.code yX1_countHeldFor cX1_countHeldFor 3 (some FieldType.int) :: zB
abbrev rm_X1_longestStand : Room := { frames := 1, cells := 0, slots := 0, locals := 21 }
abbrev w_X1_longestStand : List Cond := Cond.code yX1_longestStand cX1_longestStand 3 (some FieldType.int) :: zB
abbrev rm_X1_openSeconds : Room := { frames := 2, cells := 0, slots := 0, locals := 42 }
abbrev w_X1_openSeconds : List Cond := Cond.code yX1_openSeconds cX1_openSeconds 7 (some FieldType.int) :: zB
abbrev rm_X2_add : Room := { frames := 1, cells := 0, slots := 0, locals := 22 }
abbrev w_X2_add : List Cond := Cond.code yX2_add cX2_add 2 none :: zB
abbrev rm_X2_begin : Room := { frames := 0, cells := 0, slots := 0, locals := 0 }
abbrev w_X2_begin : List Cond := Cond.code yX2_begin cX2_begin 1 none :: zB
abbrev rm_X2_here : Room := { frames := 0, cells := 0, slots := 0, locals := 0 }
abbrev w_X2_here : List Cond := Cond.code yX2_here cX2_here 1 (some FieldType.int) :: zB
abbrev rm_X2_take : Room := { frames := 0, cells := 0, slots := 0, locals := 0 }
abbrev w_X2_take : List Cond := Cond.code yX2_take cX2_take 2 none :: zB
abbrev rm_X2_isDigitHere : Room := { frames := 1, cells := 0, slots := 0, locals := 20 }
abbrev w_X2_isDigitHere : List Cond := Cond.code yX2_isDigitHere cX2_isDigitHere 1 (some FieldType.boolean) :: zB
abbrev rm_X2_readDigits : Room := { frames := 2, cells := 0, slots := 0, locals := 40 }
abbrev w_X2_readDigits : List Cond := Cond.code yX2_readDigits cX2_readDigits 4 none :: zB
abbrev rm_X2_readNumber : Room := { frames := 3, cells := 0, slots := 0, locals := 63 }
abbrev w_X2_readNumber : List Cond := Cond.code yX2_readNumber cX2_readNumber 2 none :: zB
abbrev rm_X2_readSign : Room := { frames := 1, cells := 0, slots := 0, locals := 21 }
abbrev w_X2_readSign : List Cond := Cond.code yX2_readSign cX2_readSign 2 none :: zB
abbrev rm_X4_isBit : Room := { frames := 0, cells := 0, slots := 0, locals := 0 }
abbrev w_X4_isBit : List Cond := Cond.code yX4_isBit cX4_isBit 1 (some FieldType.boolean) :: zB
abbrev rm_X4_isCustom : Room := { frames := 0, cells := 0, slots := 0, locals := 0 }
abbrev w_X4_isCustom : List Cond := Cond.code yX4_isCustom cX4_isCustom 1 (some FieldType.boolean) :: zB
abbrev rm_X2_isAsItMustBe : Room := { frames := 1, cells := 0, slots := 0, locals := 21 }
abbrev w_X2_isAsItMustBe : List Cond := Cond.code yX2_isAsItMustBe cX2_isAsItMustBe 3 (some FieldType.boolean) :: zB
abbrev rm_X3_tell : Room := { frames := 1, cells := 0, slots := 0, locals := 22 }
abbrev w_X3_tell : List Cond := Cond.code yX3_tell cX3_tell 4 none :: zB
abbrev rm_X3_addWalker : Room := { frames := 2, cells := 0, slots := 0, locals := 45 }
abbrev w_X3_addWalker : List Cond := Cond.code yX3_addWalker cX3_addWalker 3 none :: zB
abbrev rm_X3_change : Room := { frames := 1, cells := 0, slots := 0, locals := 22 }
abbrev w_X3_change : List Cond := Cond.code yX3_change cX3_change 4 (some FieldType.int) :: zB
abbrev rm_X2_bringStatement : Room := { frames := 3, cells := 0, slots := 0, locals := 67 }
abbrev w_X2_bringStatement : List Cond := Cond.code yX2_bringStatement cX2_bringStatement 3 none :: zB
abbrev rm_X3_has : Room := { frames := 0, cells := 0, slots := 0, locals := 0 }
abbrev w_X3_has : List Cond := Cond.code yX3_has cX3_has 2 (some FieldType.boolean) :: zB
abbrev rm_X3_leaveOut : Room := { frames := 2, cells := 0, slots := 0, locals := 45 }
abbrev w_X3_leaveOut : List Cond := Cond.code yX3_leaveOut cX3_leaveOut 4 none :: zB
abbrev rm_X3_become : Room := { frames := 1, cells := 0, slots := 0, locals := 22 }
abbrev w_X3_become : List Cond := Cond.code yX3_become cX3_become 2 none :: zB
abbrev rm_X4_refuse : Room := { frames := 1, cells := 0, slots := 0, locals := 22 }
abbrev w_X4_refuse : List Cond := Cond.code yX4_refuse cX4_refuse 3 (some FieldType.int) :: zB
abbrev rm_X4_letter : Room := { frames := 2, cells := 0, slots := 0, locals := 44 }
abbrev w_X4_letter : List Cond := Cond.code yX4_letter cX4_letter 2 (some FieldType.int) :: zB
abbrev rm_X4_walker : Room := { frames := 2, cells := 0, slots := 0, locals := 45 }
abbrev w_X4_walker : List Cond := Cond.code yX4_walker cX4_walker 3 (some FieldType.int) :: zB
abbrev rm_X4_set : Room := { frames := 2, cells := 0, slots := 0, locals := 45 }
abbrev w_X4_set : List Cond := Cond.code yX4_set cX4_set 3 (some FieldType.int) :: zB
abbrev rm_X4_custom : Room := { frames := 2, cells := 0, slots := 0, locals := 45 }
abbrev w_X4_custom : List Cond := Cond.code yX4_custom cX4_custom 2 (some FieldType.int) :: zB
abbrev rm_X4_far : Room := { frames := 2, cells := 0, slots := 0, locals := 48 }
abbrev w_X4_far : List Cond := Cond.code yX4_far cX4_far 4 (some FieldType.int) :: zB
abbrev rm_X4_there : Room := { frames := 2, cells := 0, slots := 0, locals := 44 }
abbrev w_X4_there : List Cond := Cond.code yX4_there cX4_there 2 (some FieldType.int) :: zB
abbrev rm_X4_order : Room := { frames := 4, cells := 0, slots := 0, locals := 100 }
abbrev w_X4_order : List Cond := Cond.code yX4_order cX4_order 2 (some FieldType.int) :: zB
abbrev rm_X4_answerOf_k1 : Room := { frames := 4, cells := 0, slots := 0, locals := 100 }
abbrev w_X4_answerOf : List Cond := Cond.code yX4_answerOf cX4_answerOf 3 (some FieldType.int) :: zB
abbrev rm_X4_comes : Room := { frames := 5, cells := 0, slots := 0, locals := 122 }
abbrev w_X4_comes : List Cond := Cond.code yX4_comes cX4_comes 2 (some FieldType.int) :: zB
abbrev rm_X4_answerOf_k2 : Room := { frames := 4, cells := 0, slots := 0, locals := 100 }
abbrev rm_X4_through : Room := { frames := 5, cells := 0, slots := 0, locals := 122 }
abbrev w_X4_through : List Cond := Cond.code yX4_through cX4_through 2 (some FieldType.int) :: zB
abbrev rm_X4_answerOf_k3 : Room := { frames := 4, cells := 0, slots := 0, locals := 100 }
abbrev rm_X4_opens : Room := { frames := 5, cells := 0, slots := 0, locals := 122 }
abbrev w_X4_opens : List Cond := Cond.code yX4_opens cX4_opens 2 (some FieldType.int) :: zB
abbrev rm_X4_answerOf_k4 : Room := { frames := 4, cells := 0, slots := 0, locals := 100 }
abbrev rm_X4_stands : Room := { frames := 5, cells := 0, slots := 0, locals := 122 }
abbrev w_X4_stands : List Cond := Cond.code yX4_stands cX4_stands 2 (some FieldType.int) :: zB
abbrev rm_X4_answerOf_k5 : Room := { frames := 4, cells := 0, slots := 0, locals := 100 }
abbrev rm_X4_by : Room := { frames := 5, cells := 0, slots := 0, locals := 122 }
abbrev w_X4_by : List Cond := Cond.code yX4_by cX4_by 2 (some FieldType.int) :: zB
abbrev rm_X4_answerOf_k6 : Room := { frames := 4, cells := 0, slots := 0, locals := 100 }
abbrev rm_X4_runs : Room := { frames := 5, cells := 0, slots := 0, locals := 122 }
abbrev w_X4_runs : List Cond := Cond.code yX4_runs cX4_runs 2 (some FieldType.int) :: zB
abbrev rm_X4_answerOf_k7 : Room := { frames := 4, cells := 0, slots := 0, locals := 100 }
abbrev rm_X4_allLoss : Room := { frames := 4, cells := 0, slots := 0, locals := 100 }
abbrev w_X4_allLoss : List Cond := Cond.code yX4_allLoss cX4_allLoss 2 (some FieldType.int) :: zB
abbrev rm_X4_loss : Room := { frames := 5, cells := 0, slots := 0, locals := 122 }
abbrev w_X4_loss : List Cond := Cond.code yX4_loss cX4_loss 2 (some FieldType.int) :: zB
abbrev rm_X4_holds : Room := { frames := 4, cells := 0, slots := 0, locals := 100 }
abbrev w_X4_holds : List Cond := Cond.code yX4_holds cX4_holds 1 (some FieldType.int) :: zB
abbrev rm_X4_longest : Room := { frames := 4, cells := 0, slots := 0, locals := 100 }
abbrev w_X4_longest : List Cond := Cond.code yX4_longest cX4_longest 1 (some FieldType.int) :: zB
abbrev rm_X4_away : Room := { frames := 4, cells := 0, slots := 0, locals := 100 }
abbrev w_X4_away : List Cond := Cond.code yX4_away cX4_away 1 (some FieldType.int) :: zB
abbrev rm_X4_open : Room := { frames := 4, cells := 0, slots := 0, locals := 100 }
abbrev w_X4_open : List Cond := Cond.code yX4_open cX4_open 1 (some FieldType.int) :: zB
abbrev rm_X4_coals : Room := { frames := 4, cells := 0, slots := 0, locals := 100 }
abbrev w_X4_coals : List Cond := Cond.code yX4_coals cX4_coals 1 (some FieldType.int) :: zB
abbrev rm_X4_byOther : Room := { frames := 5, cells := 0, slots := 0, locals := 121 }
abbrev w_X4_byOther : List Cond := Cond.code yX4_byOther cX4_byOther 3 (some FieldType.int) :: zB
abbrev rm_X4_leastLossOver : Room := { frames := 5, cells := 0, slots := 0, locals := 121 }
abbrev w_X4_leastLossOver : List Cond := Cond.code yX4_leastLossOver cX4_leastLossOver 7 (some FieldType.int) :: zB
abbrev rm_X4_bestFar : Room := { frames := 6, cells := 0, slots := 0, locals := 147 }
abbrev w_X4_bestFar : List Cond := Cond.code yX4_bestFar cX4_bestFar 1 (some FieldType.int) :: zB
abbrev rm_X4_bestCustom : Room := { frames := 6, cells := 0, slots := 0, locals := 147 }
abbrev w_X4_bestCustom : List Cond := Cond.code yX4_bestCustom cX4_bestCustom 1 (some FieldType.int) :: zB
abbrev rm_X4_bestShuts : Room := { frames := 5, cells := 0, slots := 0, locals := 121 }
abbrev w_X4_bestShuts : List Cond := Cond.code yX4_bestShuts cX4_bestShuts 5 (some FieldType.int) :: zB
abbrev rm_X4_runByNever : Room := { frames := 4, cells := 0, slots := 0, locals := 100 }
abbrev w_X4_runByNever : List Cond := Cond.code yX4_runByNever cX4_runByNever 1 none :: zB
abbrev rm_X4_worse : Room := { frames := 5, cells := 0, slots := 0, locals := 120 }
abbrev w_X4_worse : List Cond := Cond.code yX4_worse cX4_worse 3 (some FieldType.int) :: zB
abbrev rm_X4_followed : Room := { frames := 4, cells := 0, slots := 0, locals := 100 }
abbrev w_X4_followed : List Cond := Cond.code yX4_followed cX4_followed 3 (some FieldType.int) :: zB
abbrev rm_X4_porter : Room := { frames := 5, cells := 0, slots := 0, locals := 120 }
abbrev w_X4_porter : List Cond := Cond.code yX4_porter cX4_porter 1 (some FieldType.int) :: zB
abbrev rm_X4_alone : Room := { frames := 5, cells := 0, slots := 0, locals := 121 }
abbrev w_X4_alone : List Cond := Cond.code yX4_alone cX4_alone 2 (some FieldType.int) :: zB
abbrev rm_X4_refusalOfFilm : Room := { frames := 0, cells := 0, slots := 0, locals := 0 }
abbrev w_X4_refusalOfFilm : List Cond := Cond.code yX4_refusalOfFilm cX4_refusalOfFilm 4 (some FieldType.int) :: zB
abbrev rm_X4_film : Room := { frames := 2, cells := 0, slots := 0, locals := 46 }
abbrev w_X4_film : List Cond := Cond.code yX4_film cX4_film 6 (some FieldType.int) :: zB
abbrev rm_X4_isFilmCustom : Room := { frames := 0, cells := 0, slots := 0, locals := 0 }
abbrev w_X4_isFilmCustom : List Cond := Cond.code yX4_isFilmCustom cX4_isFilmCustom 1 (some FieldType.boolean) :: zB
abbrev rm_X4_told : Room := { frames := 2, cells := 0, slots := 0, locals := 46 }
abbrev w_X4_told : List Cond := Cond.code yX4_told cX4_told 6 (some FieldType.int) :: zB
abbrev rm_X4_fitting : Room := { frames := 2, cells := 0, slots := 0, locals := 47 }
abbrev w_X4_fitting : List Cond := Cond.code yX4_fitting cX4_fitting 7 (some FieldType.int) :: zB
abbrev rm_X4_seeds : Room := { frames := 4, cells := 0, slots := 0, locals := 100 }
abbrev w_X4_seeds : List Cond := Cond.code yX4_seeds cX4_seeds 7 (some FieldType.int) :: zB
abbrev rm_X4_row : Room := { frames := 2, cells := 0, slots := 0, locals := 44 }
abbrev w_X4_row : List Cond := Cond.code yX4_row cX4_row 2 (some FieldType.int) :: zB
abbrev rm_X4_judge : Room := { frames := 4, cells := 0, slots := 0, locals := 100 }
abbrev w_X4_judge : List Cond := Cond.code yX4_judge cX4_judge 4 (some FieldType.int) :: zB
abbrev rm_X4_image : Room := { frames := 2, cells := 0, slots := 0, locals := 43 }
abbrev w_X4_image : List Cond := Cond.code yX4_image cX4_image 1 (some FieldType.int) :: zB
abbrev rm_X4_on : Room := { frames := 2, cells := 0, slots := 0, locals := 44 }
abbrev w_X4_on : List Cond := Cond.code yX4_on cX4_on 1 (some FieldType.int) :: zB
abbrev rm_X4_count : Room := { frames := 1, cells := 0, slots := 0, locals := 21 }
abbrev w_X4_count : List Cond := Cond.code yX4_count cX4_count 2 (some FieldType.int) :: zB
abbrev rm_X5_no : Room := { frames := 0, cells := 0, slots := 0, locals := 0 }
abbrev w_X5_no : List Cond := Cond.code yX5_no cX5_no 2 (some FieldType.int) :: zB
abbrev rm_X5_isIn : Room := { frames := 0, cells := 0, slots := 0, locals := 0 }
abbrev w_X5_isIn : List Cond := Cond.code yX5_isIn cX5_isIn 3 (some FieldType.boolean) :: zB
abbrev rm_X5_bound : Room := { frames := 0, cells := 0, slots := 0, locals := 0 }
abbrev w_X5_bound : List Cond := Cond.code yX5_bound cX5_bound 3 (some FieldType.int) :: zB
abbrev rm_X5_isWalker : Room := { frames := 0, cells := 0, slots := 0, locals := 0 }
abbrev w_X5_isWalker : List Cond := Cond.code yX5_isWalker cX5_isWalker 2 (some FieldType.boolean) :: zB
abbrev rm_X5_letter : Room := { frames := 1, cells := 0, slots := 0, locals := 22 }
abbrev w_X5_letter : List Cond := Cond.code yX5_letter cX5_letter 3 (some FieldType.int) :: zB
abbrev rm_X5_next : Room := { frames := 0, cells := 0, slots := 0, locals := 0 }
abbrev w_X5_next : List Cond := Cond.code yX5_next cX5_next 1 (some FieldType.int) :: zB
abbrev rm_X5_isNext : Room := { frames := 1, cells := 0, slots := 0, locals := 20 }
abbrev w_X5_isNext : List Cond := Cond.code yX5_isNext cX5_isNext 2 (some FieldType.boolean) :: zB
abbrev rm_X5_reads : Room := { frames := 1, cells := 0, slots := 0, locals := 22 }
abbrev w_X5_reads : List Cond := Cond.code yX5_reads cX5_reads 5 (some FieldType.boolean) :: zB
abbrev rm_X5_readsOnes : Room := { frames := 2, cells := 0, slots := 0, locals := 46 }
abbrev w_X5_readsOnes : List Cond := Cond.code yX5_readsOnes cX5_readsOnes 4 (some FieldType.boolean) :: zB
abbrev rm_X5_kindOf : Room := { frames := 0, cells := 0, slots := 0, locals := 0 }
abbrev w_X5_kindOf : List Cond := Cond.code yX5_kindOf cX5_kindOf 1 (some FieldType.int) :: zB
abbrev rm_X5_readsWalker : Room := { frames := 3, cells := 0, slots := 0, locals := 69 }
abbrev w_X5_readsWalker : List Cond := Cond.code yX5_readsWalker cX5_readsWalker 2 (some FieldType.boolean) :: zB
abbrev rm_X5_statement : Room := { frames := 4, cells := 0, slots := 0, locals := 90 }
abbrev w_X5_statement : List Cond := Cond.code yX5_statement cX5_statement 4 (some FieldType.boolean) :: zB
abbrev rm_X5_comesWalker : Room := { frames := 1, cells := 0, slots := 0, locals := 22 }
abbrev w_X5_comesWalker : List Cond := Cond.code yX5_comesWalker cX5_comesWalker 2 (some FieldType.boolean) :: zB
abbrev rm_X5_comesAs : Room := { frames := 2, cells := 0, slots := 0, locals := 43 }
abbrev w_X5_comesAs : List Cond := Cond.code yX5_comesAs cX5_comesAs 4 (some FieldType.boolean) :: zB
abbrev rm_X5_passes_k1 : Room := { frames := 0, cells := 0, slots := 0, locals := 0 }
abbrev w_X5_passes : List Cond := Cond.code yX5_passes cX5_passes 3 none :: zB
abbrev rm_X5_passes_k2 : Room := { frames := 0, cells := 0, slots := 0, locals := 0 }
abbrev rm_X5_passes_k3 : Room := { frames := 0, cells := 0, slots := 0, locals := 0 }
abbrev rm_X5_passes_k4 : Room := { frames := 0, cells := 0, slots := 0, locals := 0 }
abbrev rm_X5_passes_k5 : Room := { frames := 0, cells := 0, slots := 0, locals := 0 }
abbrev rm_X5_passes_k6 : Room := { frames := 0, cells := 0, slots := 0, locals := 0 }
abbrev rm_X5_passes_k7 : Room := { frames := 0, cells := 0, slots := 0, locals := 0 }
abbrev rm_X5_passes_k8 : Room := { frames := 0, cells := 0, slots := 0, locals := 0 }
abbrev rm_X5_passes_k9 : Room := { frames := 0, cells := 0, slots := 0, locals := 0 }
abbrev rm_X5_passes_k10 : Room := { frames := 0, cells := 0, slots := 0, locals := 0 }
abbrev rm_X5_passes_k11 : Room := { frames := 0, cells := 0, slots := 0, locals := 0 }
abbrev rm_X5_passes_k12 : Room := { frames := 0, cells := 0, slots := 0, locals := 0 }
abbrev rm_X5_passOne : Room := { frames := 0, cells := 0, slots := 0, locals := 0 }
abbrev w_X5_passOne : List Cond := Cond.code yX5_passOne cX5_passOne 3 (some FieldType.int) :: zB
abbrev rm_X5_passesAll : Room := { frames := 1, cells := 0, slots := 0, locals := 22 }
abbrev w_X5_passesAll : List Cond := Cond.code yX5_passesAll cX5_passesAll 3 none :: zB
abbrev rm_X5_way : Room := { frames := 5, cells := 0, slots := 0, locals := 113 }
abbrev w_X5_way : List Cond := Cond.code yX5_way cX5_way 3 (some FieldType.int) :: zB
abbrev rm_X5_image : Room := { frames := 2, cells := 0, slots := 0, locals := 44 }
abbrev w_X5_image : List Cond := Cond.code yX5_image cX5_image 1 (some FieldType.int) :: zB
abbrev rm_X5_on : Room := { frames := 2, cells := 0, slots := 0, locals := 44 }
abbrev w_X5_on : List Cond := Cond.code yX5_on cX5_on 1 (some FieldType.int) :: zB
abbrev rm_X5_heldYards : Room := { frames := 0, cells := 0, slots := 0, locals := 0 }
abbrev w_X5_heldYards : List Cond := Cond.code yX5_heldYards cX5_heldYards 2 (some FieldType.int) :: zB
abbrev rm_X5_walker : Room := { frames := 1, cells := 0, slots := 0, locals := 21 }
abbrev w_X5_walker : List Cond := Cond.code yX5_walker cX5_walker 3 (some FieldType.int) :: zB
abbrev rm_X5_custom : Room := { frames := 1, cells := 0, slots := 0, locals := 22 }
abbrev w_X5_custom : List Cond := Cond.code yX5_custom cX5_custom 3 (some FieldType.int) :: zB
abbrev rm_X5_farOf : Room := { frames := 0, cells := 0, slots := 0, locals := 0 }
abbrev w_X5_farOf : List Cond := Cond.code yX5_farOf cX5_farOf 7 (some FieldType.int) :: zB
abbrev rm_X5_areTwo : Room := { frames := 1, cells := 0, slots := 0, locals := 21 }
abbrev w_X5_areTwo : List Cond := Cond.code yX5_areTwo cX5_areTwo 3 (some FieldType.boolean) :: zB
abbrev rm_X5_far : Room := { frames := 2, cells := 0, slots := 0, locals := 43 }
abbrev w_X5_far : List Cond := Cond.code yX5_far cX5_far 4 (some FieldType.int) :: zB
abbrev rm_X5_upBy : Room := { frames := 0, cells := 0, slots := 0, locals := 0 }
abbrev w_X5_upBy : List Cond := Cond.code yX5_upBy cX5_upBy 2 (some FieldType.int) :: zB
abbrev rm_X5_thereOf : Room := { frames := 1, cells := 0, slots := 0, locals := 21 }
abbrev w_X5_thereOf : List Cond := Cond.code yX5_thereOf cX5_thereOf 2 (some FieldType.int) :: zB
abbrev rm_X5_there : Room := { frames := 2, cells := 0, slots := 0, locals := 42 }
abbrev w_X5_there : List Cond := Cond.code yX5_there cX5_there 2 (some FieldType.int) :: zB
abbrev rm_X5_firstOf : Room := { frames := 2, cells := 0, slots := 0, locals := 42 }
abbrev w_X5_firstOf : List Cond := Cond.code yX5_firstOf cX5_firstOf 4 (some FieldType.int) :: zB
abbrev rm_X5_holdsFor : Room := { frames := 1, cells := 0, slots := 0, locals := 26 }
abbrev w_X5_holdsFor : List Cond := Cond.code yX5_holdsFor cX5_holdsFor 5 (some FieldType.int) :: zB
abbrev rm_X5_opensFor : Room := { frames := 2, cells := 0, slots := 0, locals := 42 }
abbrev w_X5_opensFor : List Cond := Cond.code yX5_opensFor cX5_opensFor 5 none :: zB
abbrev rm_X5_isHeldFor : Room := { frames := 1, cells := 0, slots := 0, locals := 21 }
abbrev w_X5_isHeldFor : List Cond := Cond.code yX5_isHeldFor cX5_isHeldFor 4 none :: zB
abbrev rm_X5_goes : Room := { frames := 3, cells := 0, slots := 0, locals := 66 }
abbrev w_X5_goes : List Cond := Cond.code yX5_goes cX5_goes 6 none :: zB
abbrev rm_X5_goesAll : Room := { frames := 4, cells := 0, slots := 0, locals := 91 }
abbrev w_X5_goesAll : List Cond := Cond.code yX5_goesAll cX5_goesAll 1 none :: zB
abbrev rm_X5_lossOf : Room := { frames := 0, cells := 0, slots := 0, locals := 0 }
abbrev w_X5_lossOf : List Cond := Cond.code yX5_lossOf cX5_lossOf 2 (some FieldType.int) :: zB
abbrev rm_X5_lossOfAll : Room := { frames := 1, cells := 0, slots := 0, locals := 21 }
abbrev w_X5_lossOfAll : List Cond := Cond.code yX5_lossOfAll cX5_lossOfAll 3 (some FieldType.int) :: zB
abbrev rm_X5_order : Room := { frames := 5, cells := 0, slots := 0, locals := 111 }
abbrev w_X5_order : List Cond := Cond.code yX5_order cX5_order 2 (some FieldType.int) :: zB
abbrev rm_X5_comes : Room := { frames := 5, cells := 0, slots := 0, locals := 111 }
abbrev w_X5_comes : List Cond := Cond.code yX5_comes cX5_comes 2 (some FieldType.int) :: zB
abbrev rm_X5_through : Room := { frames := 5, cells := 0, slots := 0, locals := 111 }
abbrev w_X5_through : List Cond := Cond.code yX5_through cX5_through 2 (some FieldType.int) :: zB
abbrev rm_X5_opens : Room := { frames := 5, cells := 0, slots := 0, locals := 111 }
abbrev w_X5_opens : List Cond := Cond.code yX5_opens cX5_opens 2 (some FieldType.int) :: zB
abbrev rm_X5_stands : Room := { frames := 5, cells := 0, slots := 0, locals := 111 }
abbrev w_X5_stands : List Cond := Cond.code yX5_stands cX5_stands 2 (some FieldType.int) :: zB
abbrev rm_X5_by : Room := { frames := 5, cells := 0, slots := 0, locals := 111 }
abbrev w_X5_by : List Cond := Cond.code yX5_by cX5_by 2 (some FieldType.int) :: zB
abbrev rm_X5_runs : Room := { frames := 5, cells := 0, slots := 0, locals := 111 }
abbrev w_X5_runs : List Cond := Cond.code yX5_runs cX5_runs 2 (some FieldType.int) :: zB
abbrev rm_X5_loss : Room := { frames := 5, cells := 0, slots := 0, locals := 111 }
abbrev w_X5_loss : List Cond := Cond.code yX5_loss cX5_loss 2 (some FieldType.int) :: zB
abbrev rm_X5_heldMany : Room := { frames := 0, cells := 0, slots := 0, locals := 0 }
abbrev w_X5_heldMany : List Cond := Cond.code yX5_heldMany cX5_heldMany 3 (some FieldType.int) :: zB
abbrev rm_X5_holds : Room := { frames := 5, cells := 0, slots := 0, locals := 111 }
abbrev w_X5_holds : List Cond := Cond.code yX5_holds cX5_holds 1 (some FieldType.int) :: zB
abbrev rm_X5_longest : Room := { frames := 5, cells := 0, slots := 0, locals := 111 }
abbrev w_X5_longest : List Cond := Cond.code yX5_longest cX5_longest 3 (some FieldType.int) :: zB
abbrev rm_X5_away : Room := { frames := 5, cells := 0, slots := 0, locals := 111 }
abbrev w_X5_away : List Cond := Cond.code yX5_away cX5_away 1 (some FieldType.int) :: zB
abbrev rm_X5_openSeconds : Room := { frames := 0, cells := 0, slots := 0, locals := 0 }
abbrev w_X5_openSeconds : List Cond := Cond.code yX5_openSeconds cX5_openSeconds 5 (some FieldType.int) :: zB
abbrev rm_X5_open : Room := { frames := 5, cells := 0, slots := 0, locals := 111 }
abbrev w_X5_open : List Cond := Cond.code yX5_open cX5_open 1 (some FieldType.int) :: zB
abbrev rm_X5_coals : Room := { frames := 5, cells := 0, slots := 0, locals := 111 }
abbrev w_X5_coals : List Cond := Cond.code yX5_coals cX5_coals 1 (some FieldType.int) :: zB
abbrev rm_X5_lossBy : Room := { frames := 5, cells := 0, slots := 0, locals := 111 }
abbrev w_X5_lossBy : List Cond := Cond.code yX5_lossBy cX5_lossBy 5 (some FieldType.int) :: zB
abbrev rm_X5_byOther : Room := { frames := 6, cells := 0, slots := 0, locals := 135 }
abbrev w_X5_byOther : List Cond := Cond.code yX5_byOther cX5_byOther 4 (some FieldType.int) :: zB
abbrev rm_X5_bestFar : Room := { frames := 6, cells := 0, slots := 0, locals := 135 }
abbrev w_X5_bestFar : List Cond := Cond.code yX5_bestFar cX5_bestFar 3 (some FieldType.int) :: zB
abbrev rm_X5_bestCustom : Room := { frames := 6, cells := 0, slots := 0, locals := 135 }
abbrev w_X5_bestCustom : List Cond := Cond.code yX5_bestCustom cX5_bestCustom 3 (some FieldType.int) :: zB
abbrev rm_X5_bestShuts : Room := { frames := 5, cells := 0, slots := 0, locals := 111 }
abbrev w_X5_bestShuts : List Cond := Cond.code yX5_bestShuts cX5_bestShuts 6 (some FieldType.int) :: zB
abbrev rm_X5_worse : Room := { frames := 6, cells := 0, slots := 0, locals := 135 }
abbrev w_X5_worse : List Cond := Cond.code yX5_worse cX5_worse 3 (some FieldType.int) :: zB
abbrev rm_X5_followed : Room := { frames := 5, cells := 0, slots := 0, locals := 111 }
abbrev w_X5_followed : List Cond := Cond.code yX5_followed cX5_followed 3 (some FieldType.int) :: zB
abbrev rm_X5_porter : Room := { frames := 6, cells := 0, slots := 0, locals := 135 }
abbrev w_X5_porter : List Cond := Cond.code yX5_porter cX5_porter 1 (some FieldType.int) :: zB
abbrev rm_X5_alone : Room := { frames := 4, cells := 0, slots := 0, locals := 91 }
abbrev w_X5_alone : List Cond := Cond.code yX5_alone cX5_alone 2 (some FieldType.int) :: zB
abbrev rm_X5_filmFar : Room := { frames := 0, cells := 0, slots := 0, locals := 0 }
abbrev w_X5_filmFar : List Cond := Cond.code yX5_filmFar cX5_filmFar 4 (some FieldType.int) :: zB
abbrev rm_X5_notFilm : Room := { frames := 1, cells := 0, slots := 0, locals := 22 }
abbrev w_X5_notFilm : List Cond := Cond.code yX5_notFilm cX5_notFilm 4 (some FieldType.int) :: zB
abbrev rm_X5_addsFilm : Room := { frames := 0, cells := 0, slots := 0, locals := 0 }
abbrev w_X5_addsFilm : List Cond := Cond.code yX5_addsFilm cX5_addsFilm 5 none :: zB
abbrev rm_X5_film : Room := { frames := 2, cells := 0, slots := 0, locals := 45 }
abbrev w_X5_film : List Cond := Cond.code yX5_film cX5_film 6 (some FieldType.int) :: zB
abbrev rm_X5_told : Room := { frames := 2, cells := 0, slots := 0, locals := 45 }
abbrev w_X5_told : List Cond := Cond.code yX5_told cX5_told 6 (some FieldType.int) :: zB
abbrev rm_X5_doFit : Room := { frames := 1, cells := 0, slots := 0, locals := 23 }
abbrev w_X5_doFit : List Cond := Cond.code yX5_doFit cX5_doFit 5 (some FieldType.boolean) :: zB
abbrev rm_X5_fitting : Room := { frames := 2, cells := 0, slots := 0, locals := 47 }
abbrev w_X5_fitting : List Cond := Cond.code yX5_fitting cX5_fitting 7 (some FieldType.int) :: zB
abbrev rm_X5_seeds : Room := { frames := 5, cells := 0, slots := 0, locals := 111 }
abbrev w_X5_seeds : List Cond := Cond.code yX5_seeds cX5_seeds 8 (some FieldType.int) :: zB
abbrev rm_X5_row : Room := { frames := 1, cells := 0, slots := 0, locals := 22 }
abbrev w_X5_row : List Cond := Cond.code yX5_row cX5_row 3 (some FieldType.int) :: zB
abbrev rm_X5_judge : Room := { frames := 5, cells := 0, slots := 0, locals := 111 }
abbrev w_X5_judge : List Cond := Cond.code yX5_judge cX5_judge 4 (some FieldType.int) :: zB
abbrev rm_X5_count : Room := { frames := 1, cells := 0, slots := 0, locals := 22 }
abbrev w_X5_count : List Cond := Cond.code yX5_count cX5_count 2 (some FieldType.int) :: zB
theorem hd_X4_put : yX4_put.cls = RX4 ∧ yX4_put.cls ≠ "java/lang/invoke/MethodHandle" ∧ yX4_put.cls ≠ "java/lang/invoke/VarHandle" ∧ (parseMethodDescriptor yX4_put.desc).map (fun d => d.parameters.length) = some 3 := by decide +kernel
theorem hd_X4_copyRow : yX4_copyRow.cls = RX4 ∧ yX4_copyRow.cls ≠ "java/lang/invoke/MethodHandle" ∧ yX4_copyRow.cls ≠ "java/lang/invoke/VarHandle" ∧ (parseMethodDescriptor yX4_copyRow.desc).map (fun d => d.parameters.length) = some 2 := by decide +kernel
theorem hd_X4_at : yX4_at.cls = RX4 ∧ yX4_at.cls ≠ "java/lang/invoke/MethodHandle" ∧ yX4_at.cls ≠ "java/lang/invoke/VarHandle" ∧ (parseMethodDescriptor yX4_at.desc).map (fun d => d.parameters.length) = some 2 := by decide +kernel
theorem hd_X4_filmUpTo : yX4_filmUpTo.cls = RX4 ∧ yX4_filmUpTo.cls ≠ "java/lang/invoke/MethodHandle" ∧ yX4_filmUpTo.cls ≠ "java/lang/invoke/VarHandle" ∧ (parseMethodDescriptor yX4_filmUpTo.desc).map (fun d => d.parameters.length) = some 4 := by decide +kernel
theorem hd_X3_door : yX3_door.cls = RX3 ∧ yX3_door.cls ≠ "java/lang/invoke/MethodHandle" ∧ yX3_door.cls ≠ "java/lang/invoke/VarHandle" ∧ (parseMethodDescriptor yX3_door.desc).map (fun d => d.parameters.length) = some 1 := by decide +kernel
theorem hd_X3_of : yX3_of.cls = RX3 ∧ yX3_of.cls ≠ "java/lang/invoke/MethodHandle" ∧ yX3_of.cls ≠ "java/lang/invoke/VarHandle" ∧ (parseMethodDescriptor yX3_of.desc).map (fun d => d.parameters.length) = some 2 := by decide +kernel
theorem hd_X3_yardsHeldFor : yX3_yardsHeldFor.cls = RX3 ∧ yX3_yardsHeldFor.cls ≠ "java/lang/invoke/MethodHandle" ∧ yX3_yardsHeldFor.cls ≠ "java/lang/invoke/VarHandle" ∧ (parseMethodDescriptor yX3_yardsHeldFor.desc).map (fun d => d.parameters.length) = some 1 := by decide +kernel
theorem hd_X3_secondsToOpen : yX3_secondsToOpen.cls = RX3 ∧ yX3_secondsToOpen.cls ≠ "java/lang/invoke/MethodHandle" ∧ yX3_secondsToOpen.cls ≠ "java/lang/invoke/VarHandle" ∧ (parseMethodDescriptor yX3_secondsToOpen.desc).map (fun d => d.parameters.length) = some 1 := by decide +kernel
theorem hd_X1_goneAt : yX1_goneAt.cls = RX1 ∧ yX1_goneAt.cls ≠ "java/lang/invoke/MethodHandle" ∧ yX1_goneAt.cls ≠ "java/lang/invoke/VarHandle" ∧ (parseMethodDescriptor yX1_goneAt.desc).map (fun d => d.parameters.length) = some 1 := by decide +kernel
theorem hd_X3_holdsUpTo : yX3_holdsUpTo.cls = RX3 ∧ yX3_holdsUpTo.cls ≠ "java/lang/invoke/MethodHandle" ∧ yX3_holdsUpTo.cls ≠ "java/lang/invoke/VarHandle" ∧ (parseMethodDescriptor yX3_holdsUpTo.desc).map (fun d => d.parameters.length) = some 3 := by decide +kernel
theorem hd_X4_divideUp : yX4_divideUp.cls = RX4 ∧ yX4_divideUp.cls ≠ "java/lang/invoke/MethodHandle" ∧ yX4_divideUp.cls ≠ "java/lang/invoke/VarHandle" ∧ (parseMethodDescriptor yX4_divideUp.desc).map (fun d => d.parameters.length) = some 2 := by decide +kernel
theorem hd_X3_yardsToGo : yX3_yardsToGo.cls = RX3 ∧ yX3_yardsToGo.cls ≠ "java/lang/invoke/MethodHandle" ∧ yX3_yardsToGo.cls ≠ "java/lang/invoke/VarHandle" ∧ (parseMethodDescriptor yX3_yardsToGo.desc).map (fun d => d.parameters.length) = some 2 := by decide +kernel
theorem hd_X1_comeThrough : yX1_comeThrough.cls = RX1 ∧ yX1_comeThrough.cls ≠ "java/lang/invoke/MethodHandle" ∧ yX1_comeThrough.cls ≠ "java/lang/invoke/VarHandle" ∧ (parseMethodDescriptor yX1_comeThrough.desc).map (fun d => d.parameters.length) = some 3 := by decide +kernel
theorem hd_X1_findNext : yX1_findNext.cls = RX1 ∧ yX1_findNext.cls ≠ "java/lang/invoke/MethodHandle" ∧ yX1_findNext.cls ≠ "java/lang/invoke/VarHandle" ∧ (parseMethodDescriptor yX1_findNext.desc).map (fun d => d.parameters.length) = some 0 := by decide +kernel
theorem hd_X1_secondsHeldFor : yX1_secondsHeldFor.cls = RX1 ∧ yX1_secondsHeldFor.cls ≠ "java/lang/invoke/MethodHandle" ∧ yX1_secondsHeldFor.cls ≠ "java/lang/invoke/VarHandle" ∧ (parseMethodDescriptor yX1_secondsHeldFor.desc).map (fun d => d.parameters.length) = some 3 := by decide +kernel
theorem hd_X3_thereFrom : yX3_thereFrom.cls = RX3 ∧ yX3_thereFrom.cls ≠ "java/lang/invoke/MethodHandle" ∧ yX3_thereFrom.cls ≠ "java/lang/invoke/VarHandle" ∧ (parseMethodDescriptor yX3_thereFrom.desc).map (fun d => d.parameters.length) = some 1 := by decide +kernel
theorem hd_X2_here : yX2_here.cls = RX2 ∧ yX2_here.cls ≠ "java/lang/invoke/MethodHandle" ∧ yX2_here.cls ≠ "java/lang/invoke/VarHandle" ∧ (parseMethodDescriptor yX2_here.desc).map (fun d => d.parameters.length) = some 0 := by decide +kernel
theorem hd_X2_isDigitHere : yX2_isDigitHere.cls = RX2 ∧ yX2_isDigitHere.cls ≠ "java/lang/invoke/MethodHandle" ∧ yX2_isDigitHere.cls ≠ "java/lang/invoke/VarHandle" ∧ (parseMethodDescriptor yX2_isDigitHere.desc).map (fun d => d.parameters.length) = some 0 := by decide +kernel
theorem hd_X2_take : yX2_take.cls = RX2 ∧ yX2_take.cls ≠ "java/lang/invoke/MethodHandle" ∧ yX2_take.cls ≠ "java/lang/invoke/VarHandle" ∧ (parseMethodDescriptor yX2_take.desc).map (fun d => d.parameters.length) = some 1 := by decide +kernel
theorem hd_X2_readDigits : yX2_readDigits.cls = RX2 ∧ yX2_readDigits.cls ≠ "java/lang/invoke/MethodHandle" ∧ yX2_readDigits.cls ≠ "java/lang/invoke/VarHandle" ∧ (parseMethodDescriptor yX2_readDigits.desc).map (fun d => d.parameters.length) = some 2 := by decide +kernel
theorem hd_X4_isBit : yX4_isBit.cls = RX4 ∧ yX4_isBit.cls ≠ "java/lang/invoke/MethodHandle" ∧ yX4_isBit.cls ≠ "java/lang/invoke/VarHandle" ∧ (parseMethodDescriptor yX4_isBit.desc).map (fun d => d.parameters.length) = some 1 := by decide +kernel
theorem hd_X4_isCustom : yX4_isCustom.cls = RX4 ∧ yX4_isCustom.cls ≠ "java/lang/invoke/MethodHandle" ∧ yX4_isCustom.cls ≠ "java/lang/invoke/VarHandle" ∧ (parseMethodDescriptor yX4_isCustom.desc).map (fun d => d.parameters.length) = some 1 := by decide +kernel
theorem hd_X3_tell : yX3_tell.cls = RX3 ∧ yX3_tell.cls ≠ "java/lang/invoke/MethodHandle" ∧ yX3_tell.cls ≠ "java/lang/invoke/VarHandle" ∧ (parseMethodDescriptor yX3_tell.desc).map (fun d => d.parameters.length) = some 3 := by decide +kernel
theorem hd_X3_addWalker : yX3_addWalker.cls = RX3 ∧ yX3_addWalker.cls ≠ "java/lang/invoke/MethodHandle" ∧ yX3_addWalker.cls ≠ "java/lang/invoke/VarHandle" ∧ (parseMethodDescriptor yX3_addWalker.desc).map (fun d => d.parameters.length) = some 1 := by decide +kernel
theorem hd_X3_change : yX3_change.cls = RX3 ∧ yX3_change.cls ≠ "java/lang/invoke/MethodHandle" ∧ yX3_change.cls ≠ "java/lang/invoke/VarHandle" ∧ (parseMethodDescriptor yX3_change.desc).map (fun d => d.parameters.length) = some 2 := by decide +kernel
theorem hd_X3_has : yX3_has.cls = RX3 ∧ yX3_has.cls ≠ "java/lang/invoke/MethodHandle" ∧ yX3_has.cls ≠ "java/lang/invoke/VarHandle" ∧ (parseMethodDescriptor yX3_has.desc).map (fun d => d.parameters.length) = some 1 := by decide +kernel
theorem hd_X4_refuse : yX4_refuse.cls = RX4 ∧ yX4_refuse.cls ≠ "java/lang/invoke/MethodHandle" ∧ yX4_refuse.cls ≠ "java/lang/invoke/VarHandle" ∧ (parseMethodDescriptor yX4_refuse.desc).map (fun d => d.parameters.length) = some 1 := by decide +kernel
theorem hd_X2_add : yX2_add.cls = RX2 ∧ yX2_add.cls ≠ "java/lang/invoke/MethodHandle" ∧ yX2_add.cls ≠ "java/lang/invoke/VarHandle" ∧ (parseMethodDescriptor yX2_add.desc).map (fun d => d.parameters.length) = some 1 := by decide +kernel
theorem hd_X1_run : yX1_run.cls = RX1 ∧ yX1_run.cls ≠ "java/lang/invoke/MethodHandle" ∧ yX1_run.cls ≠ "java/lang/invoke/VarHandle" ∧ (parseMethodDescriptor yX1_run.desc).map (fun d => d.parameters.length) = some 1 := by decide +kernel
theorem hd_X4_answerOf : yX4_answerOf.cls = RX4 ∧ yX4_answerOf.cls ≠ "java/lang/invoke/MethodHandle" ∧ yX4_answerOf.cls ≠ "java/lang/invoke/VarHandle" ∧ (parseMethodDescriptor yX4_answerOf.desc).map (fun d => d.parameters.length) = some 2 := by decide +kernel
theorem hd_X1_lossOfAll : yX1_lossOfAll.cls = RX1 ∧ yX1_lossOfAll.cls ≠ "java/lang/invoke/MethodHandle" ∧ yX1_lossOfAll.cls ≠ "java/lang/invoke/VarHandle" ∧ (parseMethodDescriptor yX1_lossOfAll.desc).map (fun d => d.parameters.length) = some 0 := by decide +kernel
theorem hd_X4_allLoss : yX4_allLoss.cls = RX4 ∧ yX4_allLoss.cls ≠ "java/lang/invoke/MethodHandle" ∧ yX4_allLoss.cls ≠ "java/lang/invoke/VarHandle" ∧ (parseMethodDescriptor yX4_allLoss.desc).map (fun d => d.parameters.length) = some 1 := by decide +kernel
theorem hd_X1_countHeldFor : yX1_countHeldFor.cls = RX1 ∧ yX1_countHeldFor.cls ≠ "java/lang/invoke/MethodHandle" ∧ yX1_countHeldFor.cls ≠ "java/lang/invoke/VarHandle" ∧ (parseMethodDescriptor yX1_countHeldFor.desc).map (fun d => d.parameters.length) = some 0 := by decide +kernel
theorem hd_X1_longestStand : yX1_longestStand.cls = RX1 ∧ yX1_longestStand.cls ≠ "java/lang/invoke/MethodHandle" ∧ yX1_longestStand.cls ≠ "java/lang/invoke/VarHandle" ∧ (parseMethodDescriptor yX1_longestStand.desc).map (fun d => d.parameters.length) = some 0 := by decide +kernel
theorem hd_X1_openSeconds : yX1_openSeconds.cls = RX1 ∧ yX1_openSeconds.cls ≠ "java/lang/invoke/MethodHandle" ∧ yX1_openSeconds.cls ≠ "java/lang/invoke/VarHandle" ∧ (parseMethodDescriptor yX1_openSeconds.desc).map (fun d => d.parameters.length) = some 1 := by decide +kernel
theorem hd_X3_become : yX3_become.cls = RX3 ∧ yX3_become.cls ≠ "java/lang/invoke/MethodHandle" ∧ yX3_become.cls ≠ "java/lang/invoke/VarHandle" ∧ (parseMethodDescriptor yX3_become.desc).map (fun d => d.parameters.length) = some 1 := by decide +kernel
theorem hd_X4_leastLossOver : yX4_leastLossOver.cls = RX4 ∧ yX4_leastLossOver.cls ≠ "java/lang/invoke/MethodHandle" ∧ yX4_leastLossOver.cls ≠ "java/lang/invoke/VarHandle" ∧ (parseMethodDescriptor yX4_leastLossOver.desc).map (fun d => d.parameters.length) = some 2 := by decide +kernel
theorem hd_X4_runByNever : yX4_runByNever.cls = RX4 ∧ yX4_runByNever.cls ≠ "java/lang/invoke/MethodHandle" ∧ yX4_runByNever.cls ≠ "java/lang/invoke/VarHandle" ∧ (parseMethodDescriptor yX4_runByNever.desc).map (fun d => d.parameters.length) = some 0 := by decide +kernel
theorem hd_X3_leaveOut : yX3_leaveOut.cls = RX3 ∧ yX3_leaveOut.cls ≠ "java/lang/invoke/MethodHandle" ∧ yX3_leaveOut.cls ≠ "java/lang/invoke/VarHandle" ∧ (parseMethodDescriptor yX3_leaveOut.desc).map (fun d => d.parameters.length) = some 1 := by decide +kernel
theorem hd_X4_refusalOfFilm : yX4_refusalOfFilm.cls = RX4 ∧ yX4_refusalOfFilm.cls ≠ "java/lang/invoke/MethodHandle" ∧ yX4_refusalOfFilm.cls ≠ "java/lang/invoke/VarHandle" ∧ (parseMethodDescriptor yX4_refusalOfFilm.desc).map (fun d => d.parameters.length) = some 3 := by decide +kernel
theorem hd_X0_add : yX0_add.cls = RX0 ∧ yX0_add.cls ≠ "java/lang/invoke/MethodHandle" ∧ yX0_add.cls ≠ "java/lang/invoke/VarHandle" ∧ (parseMethodDescriptor yX0_add.desc).map (fun d => d.parameters.length) = some 4 := by decide +kernel
theorem hd_X4_isFilmCustom : yX4_isFilmCustom.cls = RX4 ∧ yX4_isFilmCustom.cls ≠ "java/lang/invoke/MethodHandle" ∧ yX4_isFilmCustom.cls ≠ "java/lang/invoke/VarHandle" ∧ (parseMethodDescriptor yX4_isFilmCustom.desc).map (fun d => d.parameters.length) = some 1 := by decide +kernel
theorem hd_X0_allAreSo : yX0_allAreSo.cls = RX0 ∧ yX0_allAreSo.cls ≠ "java/lang/invoke/MethodHandle" ∧ yX0_allAreSo.cls ≠ "java/lang/invoke/VarHandle" ∧ (parseMethodDescriptor yX0_allAreSo.desc).map (fun d => d.parameters.length) = some 2 := by decide +kernel
theorem hd_X0_become : yX0_become.cls = RX0 ∧ yX0_become.cls ≠ "java/lang/invoke/MethodHandle" ∧ yX0_become.cls ≠ "java/lang/invoke/VarHandle" ∧ (parseMethodDescriptor yX0_become.desc).map (fun d => d.parameters.length) = some 1 := by decide +kernel
theorem hd_X5_no : yX5_no.cls = RX5 ∧ yX5_no.cls ≠ "java/lang/invoke/MethodHandle" ∧ yX5_no.cls ≠ "java/lang/invoke/VarHandle" ∧ (parseMethodDescriptor yX5_no.desc).map (fun d => d.parameters.length) = some 1 := by decide +kernel
theorem hd_X5_bound : yX5_bound.cls = RX5 ∧ yX5_bound.cls ≠ "java/lang/invoke/MethodHandle" ∧ yX5_bound.cls ≠ "java/lang/invoke/VarHandle" ∧ (parseMethodDescriptor yX5_bound.desc).map (fun d => d.parameters.length) = some 3 := by decide +kernel
theorem hd_X5_next : yX5_next.cls = RX5 ∧ yX5_next.cls ≠ "java/lang/invoke/MethodHandle" ∧ yX5_next.cls ≠ "java/lang/invoke/VarHandle" ∧ (parseMethodDescriptor yX5_next.desc).map (fun d => d.parameters.length) = some 0 := by decide +kernel
theorem hd_X5_isIn : yX5_isIn.cls = RX5 ∧ yX5_isIn.cls ≠ "java/lang/invoke/MethodHandle" ∧ yX5_isIn.cls ≠ "java/lang/invoke/VarHandle" ∧ (parseMethodDescriptor yX5_isIn.desc).map (fun d => d.parameters.length) = some 3 := by decide +kernel
theorem hd_X5_reads : yX5_reads.cls = RX5 ∧ yX5_reads.cls ≠ "java/lang/invoke/MethodHandle" ∧ yX5_reads.cls ≠ "java/lang/invoke/VarHandle" ∧ (parseMethodDescriptor yX5_reads.desc).map (fun d => d.parameters.length) = some 2 := by decide +kernel
theorem hd_X5_kindOf : yX5_kindOf.cls = RX5 ∧ yX5_kindOf.cls ≠ "java/lang/invoke/MethodHandle" ∧ yX5_kindOf.cls ≠ "java/lang/invoke/VarHandle" ∧ (parseMethodDescriptor yX5_kindOf.desc).map (fun d => d.parameters.length) = some 1 := by decide +kernel
theorem hd_X5_isNext : yX5_isNext.cls = RX5 ∧ yX5_isNext.cls ≠ "java/lang/invoke/MethodHandle" ∧ yX5_isNext.cls ≠ "java/lang/invoke/VarHandle" ∧ (parseMethodDescriptor yX5_isNext.desc).map (fun d => d.parameters.length) = some 1 := by decide +kernel
theorem hd_X5_readsOnes : yX5_readsOnes.cls = RX5 ∧ yX5_readsOnes.cls ≠ "java/lang/invoke/MethodHandle" ∧ yX5_readsOnes.cls ≠ "java/lang/invoke/VarHandle" ∧ (parseMethodDescriptor yX5_readsOnes.desc).map (fun d => d.parameters.length) = some 2 := by decide +kernel
theorem hd_X5_readsWalker : yX5_readsWalker.cls = RX5 ∧ yX5_readsWalker.cls ≠ "java/lang/invoke/MethodHandle" ∧ yX5_readsWalker.cls ≠ "java/lang/invoke/VarHandle" ∧ (parseMethodDescriptor yX5_readsWalker.desc).map (fun d => d.parameters.length) = some 1 := by decide +kernel
theorem hd_X5_comesWalker : yX5_comesWalker.cls = RX5 ∧ yX5_comesWalker.cls ≠ "java/lang/invoke/MethodHandle" ∧ yX5_comesWalker.cls ≠ "java/lang/invoke/VarHandle" ∧ (parseMethodDescriptor yX5_comesWalker.desc).map (fun d => d.parameters.length) = some 1 := by decide +kernel
theorem hd_X5_passes : yX5_passes.cls = RX5 ∧ yX5_passes.cls ≠ "java/lang/invoke/MethodHandle" ∧ yX5_passes.cls ≠ "java/lang/invoke/VarHandle" ∧ (parseMethodDescriptor yX5_passes.desc).map (fun d => d.parameters.length) = some 1 := by decide +kernel
theorem hd_X5_passOne : yX5_passOne.cls = RX5 ∧ yX5_passOne.cls ≠ "java/lang/invoke/MethodHandle" ∧ yX5_passOne.cls ≠ "java/lang/invoke/VarHandle" ∧ (parseMethodDescriptor yX5_passOne.desc).map (fun d => d.parameters.length) = some 1 := by decide +kernel
theorem hd_X5_passesAll : yX5_passesAll.cls = RX5 ∧ yX5_passesAll.cls ≠ "java/lang/invoke/MethodHandle" ∧ yX5_passesAll.cls ≠ "java/lang/invoke/VarHandle" ∧ (parseMethodDescriptor yX5_passesAll.desc).map (fun d => d.parameters.length) = some 2 := by decide +kernel
theorem hd_X5_comesAs : yX5_comesAs.cls = RX5 ∧ yX5_comesAs.cls ≠ "java/lang/invoke/MethodHandle" ∧ yX5_comesAs.cls ≠ "java/lang/invoke/VarHandle" ∧ (parseMethodDescriptor yX5_comesAs.desc).map (fun d => d.parameters.length) = some 1 := by decide +kernel
theorem hd_X5_statement : yX5_statement.cls = RX5 ∧ yX5_statement.cls ≠ "java/lang/invoke/MethodHandle" ∧ yX5_statement.cls ≠ "java/lang/invoke/VarHandle" ∧ (parseMethodDescriptor yX5_statement.desc).map (fun d => d.parameters.length) = some 0 := by decide +kernel
theorem hd_X5_isWalker : yX5_isWalker.cls = RX5 ∧ yX5_isWalker.cls ≠ "java/lang/invoke/MethodHandle" ∧ yX5_isWalker.cls ≠ "java/lang/invoke/VarHandle" ∧ (parseMethodDescriptor yX5_isWalker.desc).map (fun d => d.parameters.length) = some 1 := by decide +kernel
theorem hd_X5_heldYards : yX5_heldYards.cls = RX5 ∧ yX5_heldYards.cls ≠ "java/lang/invoke/MethodHandle" ∧ yX5_heldYards.cls ≠ "java/lang/invoke/VarHandle" ∧ (parseMethodDescriptor yX5_heldYards.desc).map (fun d => d.parameters.length) = some 1 := by decide +kernel
theorem hd_X5_areTwo : yX5_areTwo.cls = RX5 ∧ yX5_areTwo.cls ≠ "java/lang/invoke/MethodHandle" ∧ yX5_areTwo.cls ≠ "java/lang/invoke/VarHandle" ∧ (parseMethodDescriptor yX5_areTwo.desc).map (fun d => d.parameters.length) = some 2 := by decide +kernel
theorem hd_X5_farOf : yX5_farOf.cls = RX5 ∧ yX5_farOf.cls ≠ "java/lang/invoke/MethodHandle" ∧ yX5_farOf.cls ≠ "java/lang/invoke/VarHandle" ∧ (parseMethodDescriptor yX5_farOf.desc).map (fun d => d.parameters.length) = some 3 := by decide +kernel
theorem hd_X5_upBy : yX5_upBy.cls = RX5 ∧ yX5_upBy.cls ≠ "java/lang/invoke/MethodHandle" ∧ yX5_upBy.cls ≠ "java/lang/invoke/VarHandle" ∧ (parseMethodDescriptor yX5_upBy.desc).map (fun d => d.parameters.length) = some 2 := by decide +kernel
theorem hd_X5_thereOf : yX5_thereOf.cls = RX5 ∧ yX5_thereOf.cls ≠ "java/lang/invoke/MethodHandle" ∧ yX5_thereOf.cls ≠ "java/lang/invoke/VarHandle" ∧ (parseMethodDescriptor yX5_thereOf.desc).map (fun d => d.parameters.length) = some 1 := by decide +kernel
theorem hd_X5_isHeldFor : yX5_isHeldFor.cls = RX5 ∧ yX5_isHeldFor.cls ≠ "java/lang/invoke/MethodHandle" ∧ yX5_isHeldFor.cls ≠ "java/lang/invoke/VarHandle" ∧ (parseMethodDescriptor yX5_isHeldFor.desc).map (fun d => d.parameters.length) = some 3 := by decide +kernel
theorem hd_X5_firstOf : yX5_firstOf.cls = RX5 ∧ yX5_firstOf.cls ≠ "java/lang/invoke/MethodHandle" ∧ yX5_firstOf.cls ≠ "java/lang/invoke/VarHandle" ∧ (parseMethodDescriptor yX5_firstOf.desc).map (fun d => d.parameters.length) = some 1 := by decide +kernel
theorem hd_X5_holdsFor : yX5_holdsFor.cls = RX5 ∧ yX5_holdsFor.cls ≠ "java/lang/invoke/MethodHandle" ∧ yX5_holdsFor.cls ≠ "java/lang/invoke/VarHandle" ∧ (parseMethodDescriptor yX5_holdsFor.desc).map (fun d => d.parameters.length) = some 2 := by decide +kernel
theorem hd_X5_opensFor : yX5_opensFor.cls = RX5 ∧ yX5_opensFor.cls ≠ "java/lang/invoke/MethodHandle" ∧ yX5_opensFor.cls ≠ "java/lang/invoke/VarHandle" ∧ (parseMethodDescriptor yX5_opensFor.desc).map (fun d => d.parameters.length) = some 1 := by decide +kernel
theorem hd_X5_goes : yX5_goes.cls = RX5 ∧ yX5_goes.cls ≠ "java/lang/invoke/MethodHandle" ∧ yX5_goes.cls ≠ "java/lang/invoke/VarHandle" ∧ (parseMethodDescriptor yX5_goes.desc).map (fun d => d.parameters.length) = some 1 := by decide +kernel
theorem hd_X5_lossOf : yX5_lossOf.cls = RX5 ∧ yX5_lossOf.cls ≠ "java/lang/invoke/MethodHandle" ∧ yX5_lossOf.cls ≠ "java/lang/invoke/VarHandle" ∧ (parseMethodDescriptor yX5_lossOf.desc).map (fun d => d.parameters.length) = some 1 := by decide +kernel
theorem hd_X5_goesAll : yX5_goesAll.cls = RX5 ∧ yX5_goesAll.cls ≠ "java/lang/invoke/MethodHandle" ∧ yX5_goesAll.cls ≠ "java/lang/invoke/VarHandle" ∧ (parseMethodDescriptor yX5_goesAll.desc).map (fun d => d.parameters.length) = some 0 := by decide +kernel
theorem hd_X5_lossOfAll : yX5_lossOfAll.cls = RX5 ∧ yX5_lossOfAll.cls ≠ "java/lang/invoke/MethodHandle" ∧ yX5_lossOfAll.cls ≠ "java/lang/invoke/VarHandle" ∧ (parseMethodDescriptor yX5_lossOfAll.desc).map (fun d => d.parameters.length) = some 0 := by decide +kernel
theorem hd_X5_heldMany : yX5_heldMany.cls = RX5 ∧ yX5_heldMany.cls ≠ "java/lang/invoke/MethodHandle" ∧ yX5_heldMany.cls ≠ "java/lang/invoke/VarHandle" ∧ (parseMethodDescriptor yX5_heldMany.desc).map (fun d => d.parameters.length) = some 0 := by decide +kernel
theorem hd_X5_openSeconds : yX5_openSeconds.cls = RX5 ∧ yX5_openSeconds.cls ≠ "java/lang/invoke/MethodHandle" ∧ yX5_openSeconds.cls ≠ "java/lang/invoke/VarHandle" ∧ (parseMethodDescriptor yX5_openSeconds.desc).map (fun d => d.parameters.length) = some 0 := by decide +kernel
theorem hd_X5_lossBy : yX5_lossBy.cls = RX5 ∧ yX5_lossBy.cls ≠ "java/lang/invoke/MethodHandle" ∧ yX5_lossBy.cls ≠ "java/lang/invoke/VarHandle" ∧ (parseMethodDescriptor yX5_lossBy.desc).map (fun d => d.parameters.length) = some 2 := by decide +kernel
theorem hd_X5_addsFilm : yX5_addsFilm.cls = RX5 ∧ yX5_addsFilm.cls ≠ "java/lang/invoke/MethodHandle" ∧ yX5_addsFilm.cls ≠ "java/lang/invoke/VarHandle" ∧ (parseMethodDescriptor yX5_addsFilm.desc).map (fun d => d.parameters.length) = some 4 := by decide +kernel
theorem hd_X5_notFilm : yX5_notFilm.cls = RX5 ∧ yX5_notFilm.cls ≠ "java/lang/invoke/MethodHandle" ∧ yX5_notFilm.cls ≠ "java/lang/invoke/VarHandle" ∧ (parseMethodDescriptor yX5_notFilm.desc).map (fun d => d.parameters.length) = some 4 := by decide +kernel
theorem hd_X5_filmFar : yX5_filmFar.cls = RX5 ∧ yX5_filmFar.cls ≠ "java/lang/invoke/MethodHandle" ∧ yX5_filmFar.cls ≠ "java/lang/invoke/VarHandle" ∧ (parseMethodDescriptor yX5_filmFar.desc).map (fun d => d.parameters.length) = some 4 := by decide +kernel
theorem hd_X5_doFit : yX5_doFit.cls = RX5 ∧ yX5_doFit.cls ≠ "java/lang/invoke/MethodHandle" ∧ yX5_doFit.cls ≠ "java/lang/invoke/VarHandle" ∧ (parseMethodDescriptor yX5_doFit.desc).map (fun d => d.parameters.length) = some 2 := by decide +kernel

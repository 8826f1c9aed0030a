/-! THE CLAIM OUT OF ONE WALK OF THE LAW'S BODY. Your part is whole_start (and what it stands on); all else here is the same for every law, but numbers. -/
def R_law : String := "DoorIsHeldLaw"
def lw_P (b : Addr) (xs : List Int32) (args : Array Value) (s : State) : Prop := args = #[.ref b] ∧ s.IntsAt b xs ∧ xs.length ≤ 2560 ∧ (Jvm.Cond.and given_1 narrow_1).before args s = true
def lw_Q (_ : Array Value) (s : State) (o : Outcome) (t : State) : Prop := o = .returned (some (.int 1)) ∧ Framed s o t [] 67 1436
def lw_Z (below : List Frame) (a : Array Value) (s : State) : State → Prop := fun t => ∃ o, t.status = .running ∧ Ended t below o ∧ lw_Q a s o t
/-- the law's own end, with 1 on the stack, nothing written that was there before, its room as the claim has it -/
theorem lw_ret {p : Program} {l : Launch} {e : Env} {s : State} {m : MethodId} {below : List Frame} {meth : Method} {c : Code} {b : Nat} (hx : p.tables.exec = Jvm.exec) (hb : c.code = code) (hr : meth.sig.returnType = ret) (hlocks : meth.locks = false) {pc : Nat} {H : Heap} {ls : Array Slot} (hdg : decode code pc = .ok (.ireturn, 1)) : W p l e room_1 s m #[Value.ref b] below meth c H [] 67 1436 (lw_Z below #[Value.ref b] s) (F0 m pc ls [.int 1]) := by
  intro T hT X
  obtain ⟨fs, hret, hrun, hended, hW, hframe⟩ := X.leave (v := some (.int 1)) (hlocks := hlocks) (fun h => by rw [hr] at h; cases h)
  have hmeth' : T.vm.method? m = some meth := X.method'
  refine ⟨T.setFrames fs, ?_, .returned (some (.int 1)), hrun, hended, rfl, ⟨_, rfl⟩, hW, hframe⟩
  jvm_step X.here [X.here.top, hx, hb, hdg, hmeth', hr, ret, narrow_b1]
  (try refine ⟨rfl, ?_⟩); (try refine ⟨rfl, ?_⟩)
  first | (intro acts; rw [hret _ acts rfl rfl rfl]) | rw [hret _ _ rfl rfl rfl]
  exact Steps.refl _
/-- what holds at the law's entry: the machine, the code, the tables' words (any of lw_tbl by 'hts w (by decide +kernel)'), the script of L ints xs at the cell b, what the Statement gives of the start (any of its parts by flat_of_before) -/
def lw_At (p : Program) (s : State) (m : MethodId) (meth : Method) (c : Code) (b L : Nat) (xs : Nat → Int32) : Prop :=
  p.tables.exec = Jvm.exec ∧ c.code = code ∧ meth.sig.returnType = ret ∧ c.maxLocals = 4 ∧ s.vm.findClass R_law = some m.cls ∧ (∀ w ∈ lw_tbl, w.before #[Value.ref b] s = true) ∧ va_X b L xs s s.heap ∧ b < s.heap.size ∧ meth.locks = false ∧ (Jvm.Cond.and given_1 narrow_1).before #[Value.ref b] s = true
set_option maxRecDepth 100000 in
theorem zm_508 : Cond.methodLink RL 13 yX4_letter ∈ zB := zmk1 175 (by decide +kernel) rfl
set_option maxRecDepth 100000 in
theorem zm_509 : Cond.instanceMethod yX4_letter ∈ zB := zmk1 176 (by decide +kernel) rfl
set_option maxRecDepth 100000 in
theorem zm_510 : Cond.selects RX4 yX4_letter yX4_letter ∈ zB := zmk1 177 (by decide +kernel) rfl
set_option maxRecDepth 100000 in
theorem zm_511 : Cond.code yX4_letter cX4_letter 2 (some FieldType.int) ∈ zB := zmk1 178 rfl rfl
set_option maxRecDepth 100000 in
theorem zm_512 : Cond.methodLink RL 17 yX5_letter ∈ zB := zmk4 53 (by decide +kernel) rfl
set_option maxRecDepth 100000 in
theorem zm_513 : Cond.instanceMethod yX5_letter ∈ zB := zmk4 54 (by decide +kernel) rfl
set_option maxRecDepth 100000 in
theorem zm_514 : Cond.selects RX5 yX5_letter yX5_letter ∈ zB := zmk4 55 (by decide +kernel) rfl
set_option maxRecDepth 100000 in
theorem zm_515 : Cond.code yX5_letter cX5_letter 3 (some FieldType.int) ∈ zB := zmk4 56 rfl rfl
set_option maxRecDepth 100000 in
theorem zm_516 : Cond.methodLink RL 18 yX4_way ∈ zB := zmk1 192 (by decide +kernel) rfl
set_option maxRecDepth 100000 in
theorem zm_517 : Cond.instanceMethod yX4_way ∈ zB := zmk1 193 (by decide +kernel) rfl
set_option maxRecDepth 100000 in
theorem zm_518 : Cond.selects RX4 yX4_way yX4_way ∈ zB := zmk1 194 (by decide +kernel) rfl
set_option maxRecDepth 100000 in
theorem zm_519 : Cond.code yX4_way cX4_way 2 (some FieldType.int) ∈ zB := zmk1 195 rfl rfl
set_option maxRecDepth 100000 in
theorem zm_520 : Cond.methodLink RL 22 yX5_way ∈ zB := zmk4 64 (by decide +kernel) rfl
set_option maxRecDepth 100000 in
theorem zm_521 : Cond.instanceMethod yX5_way ∈ zB := zmk4 65 (by decide +kernel) rfl
set_option maxRecDepth 100000 in
theorem zm_522 : Cond.selects RX5 yX5_way yX5_way ∈ zB := zmk4 66 (by decide +kernel) rfl
set_option maxRecDepth 100000 in
theorem zm_523 : Cond.code yX5_way cX5_way 3 (some FieldType.int) ∈ zB := zmk4 67 rfl rfl
set_option maxRecDepth 100000 in
theorem zm_524 : Cond.methodLink RL 23 yX4_walker ∈ zB := zmk2 120 (by decide +kernel) rfl
set_option maxRecDepth 100000 in
theorem zm_525 : Cond.instanceMethod yX4_walker ∈ zB := zmk2 121 (by decide +kernel) rfl
set_option maxRecDepth 100000 in
theorem zm_526 : Cond.selects RX4 yX4_walker yX4_walker ∈ zB := zmk2 122 (by decide +kernel) rfl
set_option maxRecDepth 100000 in
theorem zm_527 : Cond.code yX4_walker cX4_walker 3 (some FieldType.int) ∈ zB := zmk2 123 rfl rfl
set_option maxRecDepth 100000 in
theorem zm_528 : Cond.methodLink RL 27 yX5_walker ∈ zB := zmk4 126 (by decide +kernel) rfl
set_option maxRecDepth 100000 in
theorem zm_529 : Cond.instanceMethod yX5_walker ∈ zB := zmk4 127 (by decide +kernel) rfl
set_option maxRecDepth 100000 in
theorem zm_530 : Cond.selects RX5 yX5_walker yX5_walker ∈ zB := zmk4 128 (by decide +kernel) rfl
set_option maxRecDepth 100000 in
theorem zm_531 : Cond.code yX5_walker cX5_walker 3 (some FieldType.int) ∈ zB := zmk4 129 rfl rfl
set_option maxRecDepth 100000 in
theorem zm_532 : Cond.methodLink RL 28 yX4_set ∈ zB := zmk2 138 (by decide +kernel) rfl
set_option maxRecDepth 100000 in
theorem zm_533 : Cond.instanceMethod yX4_set ∈ zB := zmk2 139 (by decide +kernel) rfl
set_option maxRecDepth 100000 in
theorem zm_534 : Cond.selects RX4 yX4_set yX4_set ∈ zB := zmk2 140 (by decide +kernel) rfl
set_option maxRecDepth 100000 in
theorem zm_535 : Cond.code yX4_set cX4_set 3 (some FieldType.int) ∈ zB := zmk2 141 rfl rfl
set_option maxRecDepth 100000 in
theorem zm_536 : Cond.methodLink RL 31 yX5_set ∈ zB := zmk4 138 (by decide +kernel) rfl
set_option maxRecDepth 100000 in
theorem zm_537 : Cond.instanceMethod yX5_set ∈ zB := zmk4 139 (by decide +kernel) rfl
set_option maxRecDepth 100000 in
theorem zm_538 : Cond.selects RX5 yX5_set yX5_set ∈ zB := zmk4 140 (by decide +kernel) rfl
set_option maxRecDepth 100000 in
theorem zm_539 : Cond.code yX5_set cX5_set 5 (some FieldType.int) ∈ zB := zmk4 141 rfl rfl
set_option maxRecDepth 100000 in
theorem zm_540 : Cond.methodLink RL 32 yX4_custom ∈ zB := zmk2 143 (by decide +kernel) rfl
set_option maxRecDepth 100000 in
theorem zm_541 : Cond.instanceMethod yX4_custom ∈ zB := zmk2 144 (by decide +kernel) rfl
set_option maxRecDepth 100000 in
theorem zm_542 : Cond.selects RX4 yX4_custom yX4_custom ∈ zB := zmk2 145 (by decide +kernel) rfl
set_option maxRecDepth 100000 in
theorem zm_543 : Cond.code yX4_custom cX4_custom 2 (some FieldType.int) ∈ zB := zmk2 146 rfl rfl
set_option maxRecDepth 100000 in
theorem zm_544 : Cond.methodLink RL 35 yX5_custom ∈ zB := zmk4 146 (by decide +kernel) rfl
set_option maxRecDepth 100000 in
theorem zm_545 : Cond.instanceMethod yX5_custom ∈ zB := zmk4 147 (by decide +kernel) rfl
set_option maxRecDepth 100000 in
theorem zm_546 : Cond.selects RX5 yX5_custom yX5_custom ∈ zB := zmk4 148 (by decide +kernel) rfl
set_option maxRecDepth 100000 in
theorem zm_547 : Cond.code yX5_custom cX5_custom 3 (some FieldType.int) ∈ zB := zmk4 149 rfl rfl
set_option maxRecDepth 100000 in
theorem zm_548 : Cond.methodLink RL 36 yX4_far ∈ zB := zmk2 148 (by decide +kernel) rfl
set_option maxRecDepth 100000 in
theorem zm_549 : Cond.instanceMethod yX4_far ∈ zB := zmk2 149 (by decide +kernel) rfl
set_option maxRecDepth 100000 in
theorem zm_550 : Cond.selects RX4 yX4_far yX4_far ∈ zB := zmk2 150 (by decide +kernel) rfl
set_option maxRecDepth 100000 in
theorem zm_551 : Cond.code yX4_far cX4_far 4 (some FieldType.int) ∈ zB := zmk2 151 rfl rfl
set_option maxRecDepth 100000 in
theorem zm_552 : Cond.methodLink RL 40 yX5_far ∈ zB := zmk4 150 (by decide +kernel) rfl
set_option maxRecDepth 100000 in
theorem zm_553 : Cond.instanceMethod yX5_far ∈ zB := zmk4 151 (by decide +kernel) rfl
set_option maxRecDepth 100000 in
theorem zm_554 : Cond.selects RX5 yX5_far yX5_far ∈ zB := zmk4 152 (by decide +kernel) rfl
set_option maxRecDepth 100000 in
theorem zm_555 : Cond.code yX5_far cX5_far 4 (some FieldType.int) ∈ zB := zmk4 153 rfl rfl
set_option maxRecDepth 100000 in
theorem zm_556 : Cond.methodLink RL 41 yX4_there ∈ zB := zmk2 160 (by decide +kernel) rfl
set_option maxRecDepth 100000 in
theorem zm_557 : Cond.instanceMethod yX4_there ∈ zB := zmk2 161 (by decide +kernel) rfl
set_option maxRecDepth 100000 in
theorem zm_558 : Cond.selects RX4 yX4_there yX4_there ∈ zB := zmk2 162 (by decide +kernel) rfl
set_option maxRecDepth 100000 in
theorem zm_559 : Cond.code yX4_there cX4_there 2 (some FieldType.int) ∈ zB := zmk2 163 rfl rfl
set_option maxRecDepth 100000 in
theorem zm_560 : Cond.methodLink RL 44 yX5_there ∈ zB := zmk4 162 (by decide +kernel) rfl
set_option maxRecDepth 100000 in
theorem zm_561 : Cond.instanceMethod yX5_there ∈ zB := zmk4 163 (by decide +kernel) rfl
set_option maxRecDepth 100000 in
theorem zm_562 : Cond.selects RX5 yX5_there yX5_there ∈ zB := zmk4 164 (by decide +kernel) rfl
set_option maxRecDepth 100000 in
theorem zm_563 : Cond.code yX5_there cX5_there 2 (some FieldType.int) ∈ zB := zmk4 165 rfl rfl
set_option maxRecDepth 100000 in
theorem zm_564 : Cond.methodLink RL 45 yX4_order ∈ zB := zmk2 171 (by decide +kernel) rfl
set_option maxRecDepth 100000 in
theorem zm_565 : Cond.instanceMethod yX4_order ∈ zB := zmk2 172 (by decide +kernel) rfl
set_option maxRecDepth 100000 in
theorem zm_566 : Cond.selects RX4 yX4_order yX4_order ∈ zB := zmk2 173 (by decide +kernel) rfl
set_option maxRecDepth 100000 in
theorem zm_567 : Cond.code yX4_order cX4_order 2 (some FieldType.int) ∈ zB := zmk2 174 rfl rfl
set_option maxRecDepth 100000 in
theorem zm_568 : Cond.methodLink RL 48 yX5_order ∈ zB := zmk4 173 (by decide +kernel) rfl
set_option maxRecDepth 100000 in
theorem zm_569 : Cond.instanceMethod yX5_order ∈ zB := zmk4 174 (by decide +kernel) rfl
set_option maxRecDepth 100000 in
theorem zm_570 : Cond.selects RX5 yX5_order yX5_order ∈ zB := zmk4 175 (by decide +kernel) rfl
set_option maxRecDepth 100000 in
theorem zm_571 : Cond.code yX5_order cX5_order 2 (some FieldType.int) ∈ zB := zmk4 176 rfl rfl
set_option maxRecDepth 100000 in
theorem zm_572 : Cond.methodLink RL 49 yX4_comes ∈ zB := zmk2 212 (by decide +kernel) rfl
set_option maxRecDepth 100000 in
theorem zm_573 : Cond.instanceMethod yX4_comes ∈ zB := zmk2 213 (by decide +kernel) rfl
set_option maxRecDepth 100000 in
theorem zm_574 : Cond.selects RX4 yX4_comes yX4_comes ∈ zB := zmk2 214 (by decide +kernel) rfl
set_option maxRecDepth 100000 in
theorem zm_575 : Cond.code yX4_comes cX4_comes 2 (some FieldType.int) ∈ zB := zmk2 215 rfl rfl
set_option maxRecDepth 100000 in
theorem zm_576 : Cond.methodLink RL 52 yX5_comes ∈ zB := zmk4 201 (by decide +kernel) rfl
set_option maxRecDepth 100000 in
theorem zm_577 : Cond.instanceMethod yX5_comes ∈ zB := zmk4 202 (by decide +kernel) rfl
set_option maxRecDepth 100000 in
theorem zm_578 : Cond.selects RX5 yX5_comes yX5_comes ∈ zB := zmk4 203 (by decide +kernel) rfl
set_option maxRecDepth 100000 in
theorem zm_579 : Cond.code yX5_comes cX5_comes 2 (some FieldType.int) ∈ zB := zmk4 204 rfl rfl
set_option maxRecDepth 100000 in
theorem zm_580 : Cond.methodLink RL 53 yX4_through ∈ zB := zmk2 220 (by decide +kernel) rfl
set_option maxRecDepth 100000 in
theorem zm_581 : Cond.instanceMethod yX4_through ∈ zB := zmk2 221 (by decide +kernel) rfl
set_option maxRecDepth 100000 in
theorem zm_582 : Cond.selects RX4 yX4_through yX4_through ∈ zB := zmk2 222 (by decide +kernel) rfl
set_option maxRecDepth 100000 in
theorem zm_583 : Cond.code yX4_through cX4_through 2 (some FieldType.int) ∈ zB := zmk2 223 rfl rfl
set_option maxRecDepth 100000 in
theorem zm_584 : Cond.methodLink RL 56 yX5_through ∈ zB := zmk4 205 (by decide +kernel) rfl
set_option maxRecDepth 100000 in
theorem zm_585 : Cond.instanceMethod yX5_through ∈ zB := zmk4 206 (by decide +kernel) rfl
set_option maxRecDepth 100000 in
theorem zm_586 : Cond.selects RX5 yX5_through yX5_through ∈ zB := zmk4 207 (by decide +kernel) rfl
set_option maxRecDepth 100000 in
theorem zm_587 : Cond.code yX5_through cX5_through 2 (some FieldType.int) ∈ zB := zmk4 208 rfl rfl
set_option maxRecDepth 100000 in
theorem zm_588 : Cond.methodLink RL 57 yX4_opens ∈ zB := zmk2 224 (by decide +kernel) rfl
set_option maxRecDepth 100000 in
theorem zm_589 : Cond.instanceMethod yX4_opens ∈ zB := zmk2 225 (by decide +kernel) rfl
set_option maxRecDepth 100000 in
theorem zm_590 : Cond.selects RX4 yX4_opens yX4_opens ∈ zB := zmk2 226 (by decide +kernel) rfl
set_option maxRecDepth 100000 in
theorem zm_591 : Cond.code yX4_opens cX4_opens 2 (some FieldType.int) ∈ zB := zmk2 227 rfl rfl
set_option maxRecDepth 100000 in
theorem zm_592 : Cond.methodLink RL 60 yX5_opens ∈ zB := zmk4 209 (by decide +kernel) rfl
set_option maxRecDepth 100000 in
theorem zm_593 : Cond.instanceMethod yX5_opens ∈ zB := zmk4 210 (by decide +kernel) rfl
set_option maxRecDepth 100000 in
theorem zm_594 : Cond.selects RX5 yX5_opens yX5_opens ∈ zB := zmk4 211 (by decide +kernel) rfl
set_option maxRecDepth 100000 in
theorem zm_595 : Cond.code yX5_opens cX5_opens 2 (some FieldType.int) ∈ zB := zmk4 212 rfl rfl
set_option maxRecDepth 100000 in
theorem zm_596 : Cond.methodLink RL 61 yX4_stands ∈ zB := zmk2 228 (by decide +kernel) rfl
set_option maxRecDepth 100000 in
theorem zm_597 : Cond.instanceMethod yX4_stands ∈ zB := zmk2 229 (by decide +kernel) rfl
set_option maxRecDepth 100000 in
theorem zm_598 : Cond.selects RX4 yX4_stands yX4_stands ∈ zB := zmk2 230 (by decide +kernel) rfl
set_option maxRecDepth 100000 in
theorem zm_599 : Cond.code yX4_stands cX4_stands 2 (some FieldType.int) ∈ zB := zmk2 231 rfl rfl
set_option maxRecDepth 100000 in
theorem zm_600 : Cond.methodLink RL 64 yX5_stands ∈ zB := zmk4 213 (by decide +kernel) rfl
set_option maxRecDepth 100000 in
theorem zm_601 : Cond.instanceMethod yX5_stands ∈ zB := zmk4 214 (by decide +kernel) rfl
set_option maxRecDepth 100000 in
theorem zm_602 : Cond.selects RX5 yX5_stands yX5_stands ∈ zB := zmk4 215 (by decide +kernel) rfl
set_option maxRecDepth 100000 in
theorem zm_603 : Cond.code yX5_stands cX5_stands 2 (some FieldType.int) ∈ zB := zmk4 216 rfl rfl
set_option maxRecDepth 100000 in
theorem zm_604 : Cond.methodLink RL 65 yX4_by ∈ zB := zmk2 232 (by decide +kernel) rfl
set_option maxRecDepth 100000 in
theorem zm_605 : Cond.instanceMethod yX4_by ∈ zB := zmk2 233 (by decide +kernel) rfl
set_option maxRecDepth 100000 in
theorem zm_606 : Cond.selects RX4 yX4_by yX4_by ∈ zB := zmk2 234 (by decide +kernel) rfl
set_option maxRecDepth 100000 in
theorem zm_607 : Cond.code yX4_by cX4_by 2 (some FieldType.int) ∈ zB := zmk2 235 rfl rfl
set_option maxRecDepth 100000 in
theorem zm_608 : Cond.methodLink RL 68 yX5_by ∈ zB := zmk4 217 (by decide +kernel) rfl
set_option maxRecDepth 100000 in
theorem zm_609 : Cond.instanceMethod yX5_by ∈ zB := zmk4 218 (by decide +kernel) rfl
set_option maxRecDepth 100000 in
theorem zm_610 : Cond.selects RX5 yX5_by yX5_by ∈ zB := zmk4 219 (by decide +kernel) rfl
set_option maxRecDepth 100000 in
theorem zm_611 : Cond.code yX5_by cX5_by 2 (some FieldType.int) ∈ zB := zmk4 220 rfl rfl
set_option maxRecDepth 100000 in
theorem zm_612 : Cond.methodLink RL 69 yX4_runs ∈ zB := zmk2 236 (by decide +kernel) rfl
set_option maxRecDepth 100000 in
theorem zm_613 : Cond.instanceMethod yX4_runs ∈ zB := zmk2 237 (by decide +kernel) rfl
set_option maxRecDepth 100000 in
theorem zm_614 : Cond.selects RX4 yX4_runs yX4_runs ∈ zB := zmk2 238 (by decide +kernel) rfl
set_option maxRecDepth 100000 in
theorem zm_615 : Cond.code yX4_runs cX4_runs 2 (some FieldType.int) ∈ zB := zmk2 239 rfl rfl
set_option maxRecDepth 100000 in
theorem zm_616 : Cond.methodLink RL 72 yX5_runs ∈ zB := zmk4 221 (by decide +kernel) rfl
set_option maxRecDepth 100000 in
theorem zm_617 : Cond.instanceMethod yX5_runs ∈ zB := zmk4 222 (by decide +kernel) rfl
set_option maxRecDepth 100000 in
theorem zm_618 : Cond.selects RX5 yX5_runs yX5_runs ∈ zB := zmk4 223 (by decide +kernel) rfl
set_option maxRecDepth 100000 in
theorem zm_619 : Cond.code yX5_runs cX5_runs 2 (some FieldType.int) ∈ zB := zmk4 224 rfl rfl
set_option maxRecDepth 100000 in
theorem zm_620 : Cond.methodLink RL 73 yX4_loss ∈ zB := zmk3 0 (by decide +kernel) rfl
set_option maxRecDepth 100000 in
theorem zm_621 : Cond.instanceMethod yX4_loss ∈ zB := zmk3 1 (by decide +kernel) rfl
set_option maxRecDepth 100000 in
theorem zm_622 : Cond.selects RX4 yX4_loss yX4_loss ∈ zB := zmk3 2 (by decide +kernel) rfl
set_option maxRecDepth 100000 in
theorem zm_623 : Cond.code yX4_loss cX4_loss 2 (some FieldType.int) ∈ zB := zmk3 3 rfl rfl
set_option maxRecDepth 100000 in
theorem zm_624 : Cond.methodLink RL 76 yX5_loss ∈ zB := zmk4 225 (by decide +kernel) rfl
set_option maxRecDepth 100000 in
theorem zm_625 : Cond.instanceMethod yX5_loss ∈ zB := zmk4 226 (by decide +kernel) rfl
set_option maxRecDepth 100000 in
theorem zm_626 : Cond.selects RX5 yX5_loss yX5_loss ∈ zB := zmk4 227 (by decide +kernel) rfl
set_option maxRecDepth 100000 in
theorem zm_627 : Cond.code yX5_loss cX5_loss 2 (some FieldType.int) ∈ zB := zmk4 228 rfl rfl
set_option maxRecDepth 100000 in
theorem zm_628 : Cond.methodLink RL 77 yX4_holds ∈ zB := zmk3 12 (by decide +kernel) rfl
set_option maxRecDepth 100000 in
theorem zm_629 : Cond.instanceMethod yX4_holds ∈ zB := zmk3 13 (by decide +kernel) rfl
set_option maxRecDepth 100000 in
theorem zm_630 : Cond.selects RX4 yX4_holds yX4_holds ∈ zB := zmk3 14 (by decide +kernel) rfl
set_option maxRecDepth 100000 in
theorem zm_631 : Cond.code yX4_holds cX4_holds 1 (some FieldType.int) ∈ zB := zmk3 15 rfl rfl
set_option maxRecDepth 100000 in
theorem zm_632 : Cond.methodLink RL 80 yX5_holds ∈ zB := zmk4 237 (by decide +kernel) rfl
set_option maxRecDepth 100000 in
theorem zm_633 : Cond.instanceMethod yX5_holds ∈ zB := zmk4 238 (by decide +kernel) rfl
set_option maxRecDepth 100000 in
theorem zm_634 : Cond.selects RX5 yX5_holds yX5_holds ∈ zB := zmk4 239 (by decide +kernel) rfl
set_option maxRecDepth 100000 in
theorem zm_635 : Cond.code yX5_holds cX5_holds 1 (some FieldType.int) ∈ zB := zmk5 0 rfl rfl
set_option maxRecDepth 100000 in
theorem zm_636 : Cond.methodLink RL 81 yX4_longest ∈ zB := zmk3 20 (by decide +kernel) rfl
set_option maxRecDepth 100000 in
theorem zm_637 : Cond.instanceMethod yX4_longest ∈ zB := zmk3 21 (by decide +kernel) rfl
set_option maxRecDepth 100000 in
theorem zm_638 : Cond.selects RX4 yX4_longest yX4_longest ∈ zB := zmk3 22 (by decide +kernel) rfl
set_option maxRecDepth 100000 in
theorem zm_639 : Cond.code yX4_longest cX4_longest 1 (some FieldType.int) ∈ zB := zmk3 23 rfl rfl
set_option maxRecDepth 100000 in
theorem zm_640 : Cond.methodLink RL 84 yX5_longest ∈ zB := zmk5 5 (by decide +kernel) rfl
set_option maxRecDepth 100000 in
theorem zm_641 : Cond.instanceMethod yX5_longest ∈ zB := zmk5 6 (by decide +kernel) rfl
set_option maxRecDepth 100000 in
theorem zm_642 : Cond.selects RX5 yX5_longest yX5_longest ∈ zB := zmk5 7 (by decide +kernel) rfl
set_option maxRecDepth 100000 in
theorem zm_643 : Cond.code yX5_longest cX5_longest 3 (some FieldType.int) ∈ zB := zmk5 8 rfl rfl
set_option maxRecDepth 100000 in
theorem zm_644 : Cond.methodLink RL 85 yX4_away ∈ zB := zmk3 28 (by decide +kernel) rfl
set_option maxRecDepth 100000 in
theorem zm_645 : Cond.instanceMethod yX4_away ∈ zB := zmk3 29 (by decide +kernel) rfl
set_option maxRecDepth 100000 in
theorem zm_646 : Cond.selects RX4 yX4_away yX4_away ∈ zB := zmk3 30 (by decide +kernel) rfl
set_option maxRecDepth 100000 in
theorem zm_647 : Cond.code yX4_away cX4_away 1 (some FieldType.int) ∈ zB := zmk3 31 rfl rfl
set_option maxRecDepth 100000 in
theorem zm_648 : Cond.methodLink RL 88 yX5_away ∈ zB := zmk5 9 (by decide +kernel) rfl
set_option maxRecDepth 100000 in
theorem zm_649 : Cond.instanceMethod yX5_away ∈ zB := zmk5 10 (by decide +kernel) rfl
set_option maxRecDepth 100000 in
theorem zm_650 : Cond.selects RX5 yX5_away yX5_away ∈ zB := zmk5 11 (by decide +kernel) rfl
set_option maxRecDepth 100000 in
theorem zm_651 : Cond.code yX5_away cX5_away 1 (some FieldType.int) ∈ zB := zmk5 12 rfl rfl
set_option maxRecDepth 100000 in
theorem zm_652 : Cond.methodLink RL 89 yX4_open ∈ zB := zmk3 33 (by decide +kernel) rfl
set_option maxRecDepth 100000 in
theorem zm_653 : Cond.instanceMethod yX4_open ∈ zB := zmk3 34 (by decide +kernel) rfl
set_option maxRecDepth 100000 in
theorem zm_654 : Cond.selects RX4 yX4_open yX4_open ∈ zB := zmk3 35 (by decide +kernel) rfl
set_option maxRecDepth 100000 in
theorem zm_655 : Cond.code yX4_open cX4_open 1 (some FieldType.int) ∈ zB := zmk3 36 rfl rfl
set_option maxRecDepth 100000 in
theorem zm_656 : Cond.methodLink RL 92 yX5_open ∈ zB := zmk5 13 (by decide +kernel) rfl
set_option maxRecDepth 100000 in
theorem zm_657 : Cond.instanceMethod yX5_open ∈ zB := zmk5 14 (by decide +kernel) rfl
set_option maxRecDepth 100000 in
theorem zm_658 : Cond.selects RX5 yX5_open yX5_open ∈ zB := zmk5 15 (by decide +kernel) rfl
set_option maxRecDepth 100000 in
theorem zm_659 : Cond.code yX5_open cX5_open 1 (some FieldType.int) ∈ zB := zmk5 16 rfl rfl
set_option maxRecDepth 100000 in
theorem zm_660 : Cond.methodLink RL 93 yX4_coals ∈ zB := zmk3 42 (by decide +kernel) rfl
set_option maxRecDepth 100000 in
theorem zm_661 : Cond.instanceMethod yX4_coals ∈ zB := zmk3 43 (by decide +kernel) rfl
set_option maxRecDepth 100000 in
theorem zm_662 : Cond.selects RX4 yX4_coals yX4_coals ∈ zB := zmk3 44 (by decide +kernel) rfl
set_option maxRecDepth 100000 in
theorem zm_663 : Cond.code yX4_coals cX4_coals 1 (some FieldType.int) ∈ zB := zmk3 45 rfl rfl
set_option maxRecDepth 100000 in
theorem zm_664 : Cond.methodLink RL 96 yX5_coals ∈ zB := zmk5 21 (by decide +kernel) rfl
set_option maxRecDepth 100000 in
theorem zm_665 : Cond.instanceMethod yX5_coals ∈ zB := zmk5 22 (by decide +kernel) rfl
set_option maxRecDepth 100000 in
theorem zm_666 : Cond.selects RX5 yX5_coals yX5_coals ∈ zB := zmk5 23 (by decide +kernel) rfl
set_option maxRecDepth 100000 in
theorem zm_667 : Cond.code yX5_coals cX5_coals 1 (some FieldType.int) ∈ zB := zmk5 24 rfl rfl
set_option maxRecDepth 100000 in
theorem zm_668 : Cond.methodLink RL 97 yX4_byOther ∈ zB := zmk3 46 (by decide +kernel) rfl
set_option maxRecDepth 100000 in
theorem zm_669 : Cond.instanceMethod yX4_byOther ∈ zB := zmk3 47 (by decide +kernel) rfl
set_option maxRecDepth 100000 in
theorem zm_670 : Cond.selects RX4 yX4_byOther yX4_byOther ∈ zB := zmk3 48 (by decide +kernel) rfl
set_option maxRecDepth 100000 in
theorem zm_671 : Cond.code yX4_byOther cX4_byOther 3 (some FieldType.int) ∈ zB := zmk3 49 rfl rfl
set_option maxRecDepth 100000 in
theorem zm_672 : Cond.methodLink RL 100 yX5_byOther ∈ zB := zmk5 25 (by decide +kernel) rfl
set_option maxRecDepth 100000 in
theorem zm_673 : Cond.instanceMethod yX5_byOther ∈ zB := zmk5 26 (by decide +kernel) rfl
set_option maxRecDepth 100000 in
theorem zm_674 : Cond.selects RX5 yX5_byOther yX5_byOther ∈ zB := zmk5 27 (by decide +kernel) rfl
set_option maxRecDepth 100000 in
theorem zm_675 : Cond.code yX5_byOther cX5_byOther 4 (some FieldType.int) ∈ zB := zmk5 28 rfl rfl
set_option maxRecDepth 100000 in
theorem zm_676 : Cond.methodLink RL 101 yX4_bestFar ∈ zB := zmk3 57 (by decide +kernel) rfl
set_option maxRecDepth 100000 in
theorem zm_677 : Cond.instanceMethod yX4_bestFar ∈ zB := zmk3 58 (by decide +kernel) rfl
set_option maxRecDepth 100000 in
theorem zm_678 : Cond.selects RX4 yX4_bestFar yX4_bestFar ∈ zB := zmk3 59 (by decide +kernel) rfl
set_option maxRecDepth 100000 in
theorem zm_679 : Cond.code yX4_bestFar cX4_bestFar 1 (some FieldType.int) ∈ zB := zmk3 60 rfl rfl
set_option maxRecDepth 100000 in
theorem zm_680 : Cond.methodLink RL 104 yX5_bestFar ∈ zB := zmk5 33 (by decide +kernel) rfl
set_option maxRecDepth 100000 in
theorem zm_681 : Cond.instanceMethod yX5_bestFar ∈ zB := zmk5 34 (by decide +kernel) rfl
set_option maxRecDepth 100000 in
theorem zm_682 : Cond.selects RX5 yX5_bestFar yX5_bestFar ∈ zB := zmk5 35 (by decide +kernel) rfl
set_option maxRecDepth 100000 in
theorem zm_683 : Cond.code yX5_bestFar cX5_bestFar 3 (some FieldType.int) ∈ zB := zmk5 36 rfl rfl
set_option maxRecDepth 100000 in
theorem zm_684 : Cond.methodLink RL 105 yX4_bestCustom ∈ zB := zmk3 65 (by decide +kernel) rfl
set_option maxRecDepth 100000 in
theorem zm_685 : Cond.instanceMethod yX4_bestCustom ∈ zB := zmk3 66 (by decide +kernel) rfl
set_option maxRecDepth 100000 in
theorem zm_686 : Cond.selects RX4 yX4_bestCustom yX4_bestCustom ∈ zB := zmk3 67 (by decide +kernel) rfl
set_option maxRecDepth 100000 in
theorem zm_687 : Cond.code yX4_bestCustom cX4_bestCustom 1 (some FieldType.int) ∈ zB := zmk3 68 rfl rfl
set_option maxRecDepth 100000 in
theorem zm_688 : Cond.methodLink RL 108 yX5_bestCustom ∈ zB := zmk5 37 (by decide +kernel) rfl
set_option maxRecDepth 100000 in
theorem zm_689 : Cond.instanceMethod yX5_bestCustom ∈ zB := zmk5 38 (by decide +kernel) rfl
set_option maxRecDepth 100000 in
theorem zm_690 : Cond.selects RX5 yX5_bestCustom yX5_bestCustom ∈ zB := zmk5 39 (by decide +kernel) rfl
set_option maxRecDepth 100000 in
theorem zm_691 : Cond.code yX5_bestCustom cX5_bestCustom 3 (some FieldType.int) ∈ zB := zmk5 40 rfl rfl
set_option maxRecDepth 100000 in
theorem zm_692 : Cond.methodLink RL 109 yX4_bestShuts ∈ zB := zmk3 69 (by decide +kernel) rfl
set_option maxRecDepth 100000 in
theorem zm_693 : Cond.instanceMethod yX4_bestShuts ∈ zB := zmk3 70 (by decide +kernel) rfl
set_option maxRecDepth 100000 in
theorem zm_694 : Cond.selects RX4 yX4_bestShuts yX4_bestShuts ∈ zB := zmk3 71 (by decide +kernel) rfl
set_option maxRecDepth 100000 in
theorem zm_695 : Cond.code yX4_bestShuts cX4_bestShuts 5 (some FieldType.int) ∈ zB := zmk3 72 rfl rfl
set_option maxRecDepth 100000 in
theorem zm_696 : Cond.methodLink RL 112 yX5_bestShuts ∈ zB := zmk5 41 (by decide +kernel) rfl
set_option maxRecDepth 100000 in
theorem zm_697 : Cond.instanceMethod yX5_bestShuts ∈ zB := zmk5 42 (by decide +kernel) rfl
set_option maxRecDepth 100000 in
theorem zm_698 : Cond.selects RX5 yX5_bestShuts yX5_bestShuts ∈ zB := zmk5 43 (by decide +kernel) rfl
set_option maxRecDepth 100000 in
theorem zm_699 : Cond.code yX5_bestShuts cX5_bestShuts 6 (some FieldType.int) ∈ zB := zmk5 44 rfl rfl
set_option maxRecDepth 100000 in
theorem zm_700 : Cond.methodLink RL 113 yX4_worse ∈ zB := zmk3 73 (by decide +kernel) rfl
set_option maxRecDepth 100000 in
theorem zm_701 : Cond.instanceMethod yX4_worse ∈ zB := zmk3 74 (by decide +kernel) rfl
set_option maxRecDepth 100000 in
theorem zm_702 : Cond.selects RX4 yX4_worse yX4_worse ∈ zB := zmk3 75 (by decide +kernel) rfl
set_option maxRecDepth 100000 in
theorem zm_703 : Cond.code yX4_worse cX4_worse 3 (some FieldType.int) ∈ zB := zmk3 76 rfl rfl
set_option maxRecDepth 100000 in
theorem zm_704 : Cond.methodLink RL 116 yX5_worse ∈ zB := zmk5 45 (by decide +kernel) rfl
set_option maxRecDepth 100000 in
theorem zm_705 : Cond.instanceMethod yX5_worse ∈ zB := zmk5 46 (by decide +kernel) rfl
set_option maxRecDepth 100000 in
theorem zm_706 : Cond.selects RX5 yX5_worse yX5_worse ∈ zB := zmk5 47 (by decide +kernel) rfl
set_option maxRecDepth 100000 in
theorem zm_707 : Cond.code yX5_worse cX5_worse 3 (some FieldType.int) ∈ zB := zmk5 48 rfl rfl
set_option maxRecDepth 100000 in
theorem zm_708 : Cond.methodLink RL 117 yX4_followed ∈ zB := zmk3 81 (by decide +kernel) rfl
set_option maxRecDepth 100000 in
theorem zm_709 : Cond.instanceMethod yX4_followed ∈ zB := zmk3 82 (by decide +kernel) rfl
set_option maxRecDepth 100000 in
theorem zm_710 : Cond.selects RX4 yX4_followed yX4_followed ∈ zB := zmk3 83 (by decide +kernel) rfl
set_option maxRecDepth 100000 in
theorem zm_711 : Cond.code yX4_followed cX4_followed 3 (some FieldType.int) ∈ zB := zmk3 84 rfl rfl
set_option maxRecDepth 100000 in
theorem zm_712 : Cond.methodLink RL 120 yX5_followed ∈ zB := zmk5 49 (by decide +kernel) rfl
set_option maxRecDepth 100000 in
theorem zm_713 : Cond.instanceMethod yX5_followed ∈ zB := zmk5 50 (by decide +kernel) rfl
set_option maxRecDepth 100000 in
theorem zm_714 : Cond.selects RX5 yX5_followed yX5_followed ∈ zB := zmk5 51 (by decide +kernel) rfl
set_option maxRecDepth 100000 in
theorem zm_715 : Cond.code yX5_followed cX5_followed 3 (some FieldType.int) ∈ zB := zmk5 52 rfl rfl
set_option maxRecDepth 100000 in
theorem zm_716 : Cond.methodLink RL 121 yX4_porter ∈ zB := zmk3 85 (by decide +kernel) rfl
set_option maxRecDepth 100000 in
theorem zm_717 : Cond.instanceMethod yX4_porter ∈ zB := zmk3 86 (by decide +kernel) rfl
set_option maxRecDepth 100000 in
theorem zm_718 : Cond.selects RX4 yX4_porter yX4_porter ∈ zB := zmk3 87 (by decide +kernel) rfl
set_option maxRecDepth 100000 in
theorem zm_719 : Cond.code yX4_porter cX4_porter 1 (some FieldType.int) ∈ zB := zmk3 88 rfl rfl
set_option maxRecDepth 100000 in
theorem zm_720 : Cond.methodLink RL 124 yX5_porter ∈ zB := zmk5 53 (by decide +kernel) rfl
set_option maxRecDepth 100000 in
theorem zm_721 : Cond.instanceMethod yX5_porter ∈ zB := zmk5 54 (by decide +kernel) rfl
set_option maxRecDepth 100000 in
theorem zm_722 : Cond.selects RX5 yX5_porter yX5_porter ∈ zB := zmk5 55 (by decide +kernel) rfl
set_option maxRecDepth 100000 in
theorem zm_723 : Cond.code yX5_porter cX5_porter 1 (some FieldType.int) ∈ zB := zmk5 56 rfl rfl
set_option maxRecDepth 100000 in
theorem zm_724 : Cond.methodLink RL 125 yX4_alone ∈ zB := zmk3 89 (by decide +kernel) rfl
set_option maxRecDepth 100000 in
theorem zm_725 : Cond.instanceMethod yX4_alone ∈ zB := zmk3 90 (by decide +kernel) rfl
set_option maxRecDepth 100000 in
theorem zm_726 : Cond.selects RX4 yX4_alone yX4_alone ∈ zB := zmk3 91 (by decide +kernel) rfl
set_option maxRecDepth 100000 in
theorem zm_727 : Cond.code yX4_alone cX4_alone 2 (some FieldType.int) ∈ zB := zmk3 92 rfl rfl
set_option maxRecDepth 100000 in
theorem zm_728 : Cond.methodLink RL 128 yX5_alone ∈ zB := zmk5 57 (by decide +kernel) rfl
set_option maxRecDepth 100000 in
theorem zm_729 : Cond.instanceMethod yX5_alone ∈ zB := zmk5 58 (by decide +kernel) rfl
set_option maxRecDepth 100000 in
theorem zm_730 : Cond.selects RX5 yX5_alone yX5_alone ∈ zB := zmk5 59 (by decide +kernel) rfl
set_option maxRecDepth 100000 in
theorem zm_731 : Cond.code yX5_alone cX5_alone 2 (some FieldType.int) ∈ zB := zmk5 60 rfl rfl
set_option maxRecDepth 100000 in
theorem zm_732 : Cond.methodLink RL 129 yX4_film ∈ zB := zmk3 98 (by decide +kernel) rfl
set_option maxRecDepth 100000 in
theorem zm_733 : Cond.instanceMethod yX4_film ∈ zB := zmk3 99 (by decide +kernel) rfl
set_option maxRecDepth 100000 in
theorem zm_734 : Cond.selects RX4 yX4_film yX4_film ∈ zB := zmk3 100 (by decide +kernel) rfl
set_option maxRecDepth 100000 in
theorem zm_735 : Cond.code yX4_film cX4_film 6 (some FieldType.int) ∈ zB := zmk3 101 rfl rfl
set_option maxRecDepth 100000 in
theorem zm_736 : Cond.methodLink RL 133 yX5_film ∈ zB := zmk5 61 (by decide +kernel) rfl
set_option maxRecDepth 100000 in
theorem zm_737 : Cond.instanceMethod yX5_film ∈ zB := zmk5 62 (by decide +kernel) rfl
set_option maxRecDepth 100000 in
theorem zm_738 : Cond.selects RX5 yX5_film yX5_film ∈ zB := zmk5 63 (by decide +kernel) rfl
set_option maxRecDepth 100000 in
theorem zm_739 : Cond.code yX5_film cX5_film 6 (some FieldType.int) ∈ zB := zmk5 64 rfl rfl
set_option maxRecDepth 100000 in
theorem zm_740 : Cond.methodLink RL 134 yX4_told ∈ zB := zmk3 111 (by decide +kernel) rfl
set_option maxRecDepth 100000 in
theorem zm_741 : Cond.instanceMethod yX4_told ∈ zB := zmk3 112 (by decide +kernel) rfl
set_option maxRecDepth 100000 in
theorem zm_742 : Cond.selects RX4 yX4_told yX4_told ∈ zB := zmk3 113 (by decide +kernel) rfl
set_option maxRecDepth 100000 in
theorem zm_743 : Cond.code yX4_told cX4_told 6 (some FieldType.int) ∈ zB := zmk3 114 rfl rfl
set_option maxRecDepth 100000 in
theorem zm_744 : Cond.methodLink RL 137 yX5_told ∈ zB := zmk5 72 (by decide +kernel) rfl
set_option maxRecDepth 100000 in
theorem zm_745 : Cond.instanceMethod yX5_told ∈ zB := zmk5 73 (by decide +kernel) rfl
set_option maxRecDepth 100000 in
theorem zm_746 : Cond.selects RX5 yX5_told yX5_told ∈ zB := zmk5 74 (by decide +kernel) rfl
set_option maxRecDepth 100000 in
theorem zm_747 : Cond.code yX5_told cX5_told 6 (some FieldType.int) ∈ zB := zmk5 75 rfl rfl
set_option maxRecDepth 100000 in
theorem zm_748 : Cond.methodLink RL 138 yX4_fitting ∈ zB := zmk3 119 (by decide +kernel) rfl
set_option maxRecDepth 100000 in
theorem zm_749 : Cond.instanceMethod yX4_fitting ∈ zB := zmk3 120 (by decide +kernel) rfl
set_option maxRecDepth 100000 in
theorem zm_750 : Cond.selects RX4 yX4_fitting yX4_fitting ∈ zB := zmk3 121 (by decide +kernel) rfl
set_option maxRecDepth 100000 in
theorem zm_751 : Cond.code yX4_fitting cX4_fitting 7 (some FieldType.int) ∈ zB := zmk3 122 rfl rfl
set_option maxRecDepth 100000 in
theorem zm_752 : Cond.methodLink RL 141 yX5_fitting ∈ zB := zmk5 79 (by decide +kernel) rfl
set_option maxRecDepth 100000 in
theorem zm_753 : Cond.instanceMethod yX5_fitting ∈ zB := zmk5 80 (by decide +kernel) rfl
set_option maxRecDepth 100000 in
theorem zm_754 : Cond.selects RX5 yX5_fitting yX5_fitting ∈ zB := zmk5 81 (by decide +kernel) rfl
set_option maxRecDepth 100000 in
theorem zm_755 : Cond.code yX5_fitting cX5_fitting 7 (some FieldType.int) ∈ zB := zmk5 82 rfl rfl
set_option maxRecDepth 100000 in
theorem zm_756 : Cond.methodLink RL 142 yX4_seeds ∈ zB := zmk3 129 (by decide +kernel) rfl
set_option maxRecDepth 100000 in
theorem zm_757 : Cond.instanceMethod yX4_seeds ∈ zB := zmk3 130 (by decide +kernel) rfl
set_option maxRecDepth 100000 in
theorem zm_758 : Cond.selects RX4 yX4_seeds yX4_seeds ∈ zB := zmk3 131 (by decide +kernel) rfl
set_option maxRecDepth 100000 in
theorem zm_759 : Cond.code yX4_seeds cX4_seeds 7 (some FieldType.int) ∈ zB := zmk3 132 rfl rfl
set_option maxRecDepth 100000 in
theorem zm_760 : Cond.methodLink RL 145 yX5_seeds ∈ zB := zmk5 87 (by decide +kernel) rfl
set_option maxRecDepth 100000 in
theorem zm_761 : Cond.instanceMethod yX5_seeds ∈ zB := zmk5 88 (by decide +kernel) rfl
set_option maxRecDepth 100000 in
theorem zm_762 : Cond.selects RX5 yX5_seeds yX5_seeds ∈ zB := zmk5 89 (by decide +kernel) rfl
set_option maxRecDepth 100000 in
theorem zm_763 : Cond.code yX5_seeds cX5_seeds 8 (some FieldType.int) ∈ zB := zmk5 90 rfl rfl
set_option maxRecDepth 100000 in
theorem zm_764 : Cond.methodLink RL 146 yX4_row ∈ zB := zmk3 137 (by decide +kernel) rfl
set_option maxRecDepth 100000 in
theorem zm_765 : Cond.instanceMethod yX4_row ∈ zB := zmk3 138 (by decide +kernel) rfl
set_option maxRecDepth 100000 in
theorem zm_766 : Cond.selects RX4 yX4_row yX4_row ∈ zB := zmk3 139 (by decide +kernel) rfl
set_option maxRecDepth 100000 in
theorem zm_767 : Cond.code yX4_row cX4_row 2 (some FieldType.int) ∈ zB := zmk3 140 rfl rfl
set_option maxRecDepth 100000 in
theorem zm_768 : Cond.methodLink RL 149 yX5_row ∈ zB := zmk5 94 (by decide +kernel) rfl
set_option maxRecDepth 100000 in
theorem zm_769 : Cond.instanceMethod yX5_row ∈ zB := zmk5 95 (by decide +kernel) rfl
set_option maxRecDepth 100000 in
theorem zm_770 : Cond.selects RX5 yX5_row yX5_row ∈ zB := zmk5 96 (by decide +kernel) rfl
set_option maxRecDepth 100000 in
theorem zm_771 : Cond.code yX5_row cX5_row 3 (some FieldType.int) ∈ zB := zmk5 97 rfl rfl
set_option maxRecDepth 100000 in
theorem zm_772 : Cond.methodLink RL 150 yX4_judge ∈ zB := zmk3 141 (by decide +kernel) rfl
set_option maxRecDepth 100000 in
theorem zm_773 : Cond.instanceMethod yX4_judge ∈ zB := zmk3 142 (by decide +kernel) rfl
set_option maxRecDepth 100000 in
theorem zm_774 : Cond.selects RX4 yX4_judge yX4_judge ∈ zB := zmk3 143 (by decide +kernel) rfl
set_option maxRecDepth 100000 in
theorem zm_775 : Cond.code yX4_judge cX4_judge 4 (some FieldType.int) ∈ zB := zmk3 144 rfl rfl
set_option maxRecDepth 100000 in
theorem zm_776 : Cond.methodLink RL 153 yX5_judge ∈ zB := zmk5 98 (by decide +kernel) rfl
set_option maxRecDepth 100000 in
theorem zm_777 : Cond.instanceMethod yX5_judge ∈ zB := zmk5 99 (by decide +kernel) rfl
set_option maxRecDepth 100000 in
theorem zm_778 : Cond.selects RX5 yX5_judge yX5_judge ∈ zB := zmk5 100 (by decide +kernel) rfl
set_option maxRecDepth 100000 in
theorem zm_779 : Cond.code yX5_judge cX5_judge 4 (some FieldType.int) ∈ zB := zmk5 101 rfl rfl
set_option maxRecDepth 100000 in
theorem zm_780 : Cond.methodLink RL 154 yX4_image ∈ zB := zmk3 146 (by decide +kernel) rfl
set_option maxRecDepth 100000 in
theorem zm_781 : Cond.instanceMethod yX4_image ∈ zB := zmk3 147 (by decide +kernel) rfl
set_option maxRecDepth 100000 in
theorem zm_782 : Cond.selects RX4 yX4_image yX4_image ∈ zB := zmk3 148 (by decide +kernel) rfl
set_option maxRecDepth 100000 in
theorem zm_783 : Cond.code yX4_image cX4_image 1 (some FieldType.int) ∈ zB := zmk3 149 rfl rfl
set_option maxRecDepth 100000 in
theorem zm_784 : Cond.methodLink RL 157 yX5_image ∈ zB := zmk4 118 (by decide +kernel) rfl
set_option maxRecDepth 100000 in
theorem zm_785 : Cond.instanceMethod yX5_image ∈ zB := zmk4 119 (by decide +kernel) rfl
set_option maxRecDepth 100000 in
theorem zm_786 : Cond.selects RX5 yX5_image yX5_image ∈ zB := zmk4 120 (by decide +kernel) rfl
set_option maxRecDepth 100000 in
theorem zm_787 : Cond.code yX5_image cX5_image 1 (some FieldType.int) ∈ zB := zmk4 121 rfl rfl
set_option maxRecDepth 100000 in
theorem zm_788 : Cond.methodLink RL 158 yX4_on ∈ zB := zmk3 155 (by decide +kernel) rfl
set_option maxRecDepth 100000 in
theorem zm_789 : Cond.instanceMethod yX4_on ∈ zB := zmk3 156 (by decide +kernel) rfl
set_option maxRecDepth 100000 in
theorem zm_790 : Cond.selects RX4 yX4_on yX4_on ∈ zB := zmk3 157 (by decide +kernel) rfl
set_option maxRecDepth 100000 in
theorem zm_791 : Cond.code yX4_on cX4_on 1 (some FieldType.int) ∈ zB := zmk3 158 rfl rfl
set_option maxRecDepth 100000 in
theorem zm_792 : Cond.methodLink RL 161 yX5_on ∈ zB := zmk4 122 (by decide +kernel) rfl
set_option maxRecDepth 100000 in
theorem zm_793 : Cond.instanceMethod yX5_on ∈ zB := zmk4 123 (by decide +kernel) rfl
set_option maxRecDepth 100000 in
theorem zm_794 : Cond.selects RX5 yX5_on yX5_on ∈ zB := zmk4 124 (by decide +kernel) rfl
set_option maxRecDepth 100000 in
theorem zm_795 : Cond.code yX5_on cX5_on 1 (some FieldType.int) ∈ zB := zmk4 125 rfl rfl
set_option maxRecDepth 100000 in
theorem zm_796 : Cond.methodLink RL 162 yX4_count ∈ zB := zmk3 159 (by decide +kernel) rfl
set_option maxRecDepth 100000 in
theorem zm_797 : Cond.instanceMethod yX4_count ∈ zB := zmk3 160 (by decide +kernel) rfl
set_option maxRecDepth 100000 in
theorem zm_798 : Cond.selects RX4 yX4_count yX4_count ∈ zB := zmk3 161 (by decide +kernel) rfl
set_option maxRecDepth 100000 in
theorem zm_799 : Cond.code yX4_count cX4_count 2 (some FieldType.int) ∈ zB := zmk3 162 rfl rfl
set_option maxRecDepth 100000 in
theorem zm_800 : Cond.methodLink RL 165 yX5_count ∈ zB := zmk5 102 (by decide +kernel) rfl
set_option maxRecDepth 100000 in
theorem zm_801 : Cond.instanceMethod yX5_count ∈ zB := zmk5 103 (by decide +kernel) rfl
set_option maxRecDepth 100000 in
theorem zm_802 : Cond.selects RX5 yX5_count yX5_count ∈ zB := zmk5 104 (by decide +kernel) rfl
set_option maxRecDepth 100000 in
theorem zm_803 : Cond.code yX5_count cX5_count 2 (some FieldType.int) ∈ zB := zmk5 105 rfl rfl
set_option maxRecDepth 100000 in
theorem zm_804 : Cond.classLink RL 7 RX4 ∈ zB := zmk1 13 (by decide +kernel) rfl
set_option maxRecDepth 100000 in
theorem zm_805 : Cond.instantiable RX4 12 ∈ zB := zmk1 14 (by decide +kernel) rfl
set_option maxRecDepth 100000 in
theorem zm_806 : Cond.code yX4_init cX4_init 1 none ∈ zB := zmk1 17 rfl rfl
set_option maxRecDepth 100000 in
theorem zm_807 : Cond.instanceMethod yX4_init ∈ zB := zmk1 16 (by decide +kernel) rfl
set_option maxRecDepth 100000 in
theorem zm_808 : Cond.classLink RL 10 RX5 ∈ zB := zmk3 163 (by decide +kernel) rfl
set_option maxRecDepth 100000 in
theorem zm_809 : Cond.instantiable RX5 41 ∈ zB := zmk3 164 (by decide +kernel) rfl
set_option maxRecDepth 100000 in
theorem zm_810 : Cond.code yX5_init cX5_init 1 none ∈ zB := zmk3 167 rfl rfl
set_option maxRecDepth 100000 in
theorem zm_811 : Cond.instanceMethod yX5_init ∈ zB := zmk3 166 (by decide +kernel) rfl
set_option maxRecDepth 100000 in
theorem zm_812 : Cond.methodLink RL 9 yX4_init ∈ zB := zmk1 15 (by decide +kernel) rfl
set_option maxRecDepth 100000 in
theorem zm_813 : Cond.methodLink RL 12 yX5_init ∈ zB := zmk3 165 (by decide +kernel) rfl
theorem hd_X4_letter : yX4_letter.cls = RX4 ∧ yX4_letter.cls ≠ "java/lang/invoke/MethodHandle" ∧ yX4_letter.cls ≠ "java/lang/invoke/VarHandle" ∧ (parseMethodDescriptor yX4_letter.desc).map (fun d => d.parameters.length) = some 1 := by decide +kernel
theorem hd_X5_letter : yX5_letter.cls = RX5 ∧ yX5_letter.cls ≠ "java/lang/invoke/MethodHandle" ∧ yX5_letter.cls ≠ "java/lang/invoke/VarHandle" ∧ (parseMethodDescriptor yX5_letter.desc).map (fun d => d.parameters.length) = some 1 := by decide +kernel
theorem hd_X4_way : yX4_way.cls = RX4 ∧ yX4_way.cls ≠ "java/lang/invoke/MethodHandle" ∧ yX4_way.cls ≠ "java/lang/invoke/VarHandle" ∧ (parseMethodDescriptor yX4_way.desc).map (fun d => d.parameters.length) = some 0 := by decide +kernel
theorem hd_X5_way : yX5_way.cls = RX5 ∧ yX5_way.cls ≠ "java/lang/invoke/MethodHandle" ∧ yX5_way.cls ≠ "java/lang/invoke/VarHandle" ∧ (parseMethodDescriptor yX5_way.desc).map (fun d => d.parameters.length) = some 0 := by decide +kernel
theorem hd_X4_walker : yX4_walker.cls = RX4 ∧ yX4_walker.cls ≠ "java/lang/invoke/MethodHandle" ∧ yX4_walker.cls ≠ "java/lang/invoke/VarHandle" ∧ (parseMethodDescriptor yX4_walker.desc).map (fun d => d.parameters.length) = some 2 := by decide +kernel
theorem hd_X5_walker : yX5_walker.cls = RX5 ∧ yX5_walker.cls ≠ "java/lang/invoke/MethodHandle" ∧ yX5_walker.cls ≠ "java/lang/invoke/VarHandle" ∧ (parseMethodDescriptor yX5_walker.desc).map (fun d => d.parameters.length) = some 2 := by decide +kernel
theorem hd_X4_set : yX4_set.cls = RX4 ∧ yX4_set.cls ≠ "java/lang/invoke/MethodHandle" ∧ yX4_set.cls ≠ "java/lang/invoke/VarHandle" ∧ (parseMethodDescriptor yX4_set.desc).map (fun d => d.parameters.length) = some 2 := by decide +kernel
theorem hd_X5_set : yX5_set.cls = RX5 ∧ yX5_set.cls ≠ "java/lang/invoke/MethodHandle" ∧ yX5_set.cls ≠ "java/lang/invoke/VarHandle" ∧ (parseMethodDescriptor yX5_set.desc).map (fun d => d.parameters.length) = some 2 := by decide +kernel
theorem hd_X4_custom : yX4_custom.cls = RX4 ∧ yX4_custom.cls ≠ "java/lang/invoke/MethodHandle" ∧ yX4_custom.cls ≠ "java/lang/invoke/VarHandle" ∧ (parseMethodDescriptor yX4_custom.desc).map (fun d => d.parameters.length) = some 1 := by decide +kernel
theorem hd_X5_custom : yX5_custom.cls = RX5 ∧ yX5_custom.cls ≠ "java/lang/invoke/MethodHandle" ∧ yX5_custom.cls ≠ "java/lang/invoke/VarHandle" ∧ (parseMethodDescriptor yX5_custom.desc).map (fun d => d.parameters.length) = some 1 := by decide +kernel
theorem hd_X4_far : yX4_far.cls = RX4 ∧ yX4_far.cls ≠ "java/lang/invoke/MethodHandle" ∧ yX4_far.cls ≠ "java/lang/invoke/VarHandle" ∧ (parseMethodDescriptor yX4_far.desc).map (fun d => d.parameters.length) = some 3 := by decide +kernel
theorem hd_X5_far : yX5_far.cls = RX5 ∧ yX5_far.cls ≠ "java/lang/invoke/MethodHandle" ∧ yX5_far.cls ≠ "java/lang/invoke/VarHandle" ∧ (parseMethodDescriptor yX5_far.desc).map (fun d => d.parameters.length) = some 3 := by decide +kernel
theorem hd_X4_there : yX4_there.cls = RX4 ∧ yX4_there.cls ≠ "java/lang/invoke/MethodHandle" ∧ yX4_there.cls ≠ "java/lang/invoke/VarHandle" ∧ (parseMethodDescriptor yX4_there.desc).map (fun d => d.parameters.length) = some 1 := by decide +kernel
theorem hd_X5_there : yX5_there.cls = RX5 ∧ yX5_there.cls ≠ "java/lang/invoke/MethodHandle" ∧ yX5_there.cls ≠ "java/lang/invoke/VarHandle" ∧ (parseMethodDescriptor yX5_there.desc).map (fun d => d.parameters.length) = some 1 := by decide +kernel
theorem hd_X4_order : yX4_order.cls = RX4 ∧ yX4_order.cls ≠ "java/lang/invoke/MethodHandle" ∧ yX4_order.cls ≠ "java/lang/invoke/VarHandle" ∧ (parseMethodDescriptor yX4_order.desc).map (fun d => d.parameters.length) = some 1 := by decide +kernel
theorem hd_X5_order : yX5_order.cls = RX5 ∧ yX5_order.cls ≠ "java/lang/invoke/MethodHandle" ∧ yX5_order.cls ≠ "java/lang/invoke/VarHandle" ∧ (parseMethodDescriptor yX5_order.desc).map (fun d => d.parameters.length) = some 1 := by decide +kernel
theorem hd_X4_comes : yX4_comes.cls = RX4 ∧ yX4_comes.cls ≠ "java/lang/invoke/MethodHandle" ∧ yX4_comes.cls ≠ "java/lang/invoke/VarHandle" ∧ (parseMethodDescriptor yX4_comes.desc).map (fun d => d.parameters.length) = some 1 := by decide +kernel
theorem hd_X5_comes : yX5_comes.cls = RX5 ∧ yX5_comes.cls ≠ "java/lang/invoke/MethodHandle" ∧ yX5_comes.cls ≠ "java/lang/invoke/VarHandle" ∧ (parseMethodDescriptor yX5_comes.desc).map (fun d => d.parameters.length) = some 1 := by decide +kernel
theorem hd_X4_through : yX4_through.cls = RX4 ∧ yX4_through.cls ≠ "java/lang/invoke/MethodHandle" ∧ yX4_through.cls ≠ "java/lang/invoke/VarHandle" ∧ (parseMethodDescriptor yX4_through.desc).map (fun d => d.parameters.length) = some 1 := by decide +kernel
theorem hd_X5_through : yX5_through.cls = RX5 ∧ yX5_through.cls ≠ "java/lang/invoke/MethodHandle" ∧ yX5_through.cls ≠ "java/lang/invoke/VarHandle" ∧ (parseMethodDescriptor yX5_through.desc).map (fun d => d.parameters.length) = some 1 := by decide +kernel
theorem hd_X4_opens : yX4_opens.cls = RX4 ∧ yX4_opens.cls ≠ "java/lang/invoke/MethodHandle" ∧ yX4_opens.cls ≠ "java/lang/invoke/VarHandle" ∧ (parseMethodDescriptor yX4_opens.desc).map (fun d => d.parameters.length) = some 1 := by decide +kernel
theorem hd_X5_opens : yX5_opens.cls = RX5 ∧ yX5_opens.cls ≠ "java/lang/invoke/MethodHandle" ∧ yX5_opens.cls ≠ "java/lang/invoke/VarHandle" ∧ (parseMethodDescriptor yX5_opens.desc).map (fun d => d.parameters.length) = some 1 := by decide +kernel
theorem hd_X4_stands : yX4_stands.cls = RX4 ∧ yX4_stands.cls ≠ "java/lang/invoke/MethodHandle" ∧ yX4_stands.cls ≠ "java/lang/invoke/VarHandle" ∧ (parseMethodDescriptor yX4_stands.desc).map (fun d => d.parameters.length) = some 1 := by decide +kernel
theorem hd_X5_stands : yX5_stands.cls = RX5 ∧ yX5_stands.cls ≠ "java/lang/invoke/MethodHandle" ∧ yX5_stands.cls ≠ "java/lang/invoke/VarHandle" ∧ (parseMethodDescriptor yX5_stands.desc).map (fun d => d.parameters.length) = some 1 := by decide +kernel
theorem hd_X4_by : yX4_by.cls = RX4 ∧ yX4_by.cls ≠ "java/lang/invoke/MethodHandle" ∧ yX4_by.cls ≠ "java/lang/invoke/VarHandle" ∧ (parseMethodDescriptor yX4_by.desc).map (fun d => d.parameters.length) = some 1 := by decide +kernel
theorem hd_X5_by : yX5_by.cls = RX5 ∧ yX5_by.cls ≠ "java/lang/invoke/MethodHandle" ∧ yX5_by.cls ≠ "java/lang/invoke/VarHandle" ∧ (parseMethodDescriptor yX5_by.desc).map (fun d => d.parameters.length) = some 1 := by decide +kernel
theorem hd_X4_runs : yX4_runs.cls = RX4 ∧ yX4_runs.cls ≠ "java/lang/invoke/MethodHandle" ∧ yX4_runs.cls ≠ "java/lang/invoke/VarHandle" ∧ (parseMethodDescriptor yX4_runs.desc).map (fun d => d.parameters.length) = some 1 := by decide +kernel
theorem hd_X5_runs : yX5_runs.cls = RX5 ∧ yX5_runs.cls ≠ "java/lang/invoke/MethodHandle" ∧ yX5_runs.cls ≠ "java/lang/invoke/VarHandle" ∧ (parseMethodDescriptor yX5_runs.desc).map (fun d => d.parameters.length) = some 1 := by decide +kernel
theorem hd_X4_loss : yX4_loss.cls = RX4 ∧ yX4_loss.cls ≠ "java/lang/invoke/MethodHandle" ∧ yX4_loss.cls ≠ "java/lang/invoke/VarHandle" ∧ (parseMethodDescriptor yX4_loss.desc).map (fun d => d.parameters.length) = some 1 := by decide +kernel
theorem hd_X5_loss : yX5_loss.cls = RX5 ∧ yX5_loss.cls ≠ "java/lang/invoke/MethodHandle" ∧ yX5_loss.cls ≠ "java/lang/invoke/VarHandle" ∧ (parseMethodDescriptor yX5_loss.desc).map (fun d => d.parameters.length) = some 1 := by decide +kernel
theorem hd_X4_holds : yX4_holds.cls = RX4 ∧ yX4_holds.cls ≠ "java/lang/invoke/MethodHandle" ∧ yX4_holds.cls ≠ "java/lang/invoke/VarHandle" ∧ (parseMethodDescriptor yX4_holds.desc).map (fun d => d.parameters.length) = some 0 := by decide +kernel
theorem hd_X5_holds : yX5_holds.cls = RX5 ∧ yX5_holds.cls ≠ "java/lang/invoke/MethodHandle" ∧ yX5_holds.cls ≠ "java/lang/invoke/VarHandle" ∧ (parseMethodDescriptor yX5_holds.desc).map (fun d => d.parameters.length) = some 0 := by decide +kernel
theorem hd_X4_longest : yX4_longest.cls = RX4 ∧ yX4_longest.cls ≠ "java/lang/invoke/MethodHandle" ∧ yX4_longest.cls ≠ "java/lang/invoke/VarHandle" ∧ (parseMethodDescriptor yX4_longest.desc).map (fun d => d.parameters.length) = some 0 := by decide +kernel
theorem hd_X5_longest : yX5_longest.cls = RX5 ∧ yX5_longest.cls ≠ "java/lang/invoke/MethodHandle" ∧ yX5_longest.cls ≠ "java/lang/invoke/VarHandle" ∧ (parseMethodDescriptor yX5_longest.desc).map (fun d => d.parameters.length) = some 0 := by decide +kernel
theorem hd_X4_away : yX4_away.cls = RX4 ∧ yX4_away.cls ≠ "java/lang/invoke/MethodHandle" ∧ yX4_away.cls ≠ "java/lang/invoke/VarHandle" ∧ (parseMethodDescriptor yX4_away.desc).map (fun d => d.parameters.length) = some 0 := by decide +kernel
theorem hd_X5_away : yX5_away.cls = RX5 ∧ yX5_away.cls ≠ "java/lang/invoke/MethodHandle" ∧ yX5_away.cls ≠ "java/lang/invoke/VarHandle" ∧ (parseMethodDescriptor yX5_away.desc).map (fun d => d.parameters.length) = some 0 := by decide +kernel
theorem hd_X4_open : yX4_open.cls = RX4 ∧ yX4_open.cls ≠ "java/lang/invoke/MethodHandle" ∧ yX4_open.cls ≠ "java/lang/invoke/VarHandle" ∧ (parseMethodDescriptor yX4_open.desc).map (fun d => d.parameters.length) = some 0 := by decide +kernel
theorem hd_X5_open : yX5_open.cls = RX5 ∧ yX5_open.cls ≠ "java/lang/invoke/MethodHandle" ∧ yX5_open.cls ≠ "java/lang/invoke/VarHandle" ∧ (parseMethodDescriptor yX5_open.desc).map (fun d => d.parameters.length) = some 0 := by decide +kernel
theorem hd_X4_coals : yX4_coals.cls = RX4 ∧ yX4_coals.cls ≠ "java/lang/invoke/MethodHandle" ∧ yX4_coals.cls ≠ "java/lang/invoke/VarHandle" ∧ (parseMethodDescriptor yX4_coals.desc).map (fun d => d.parameters.length) = some 0 := by decide +kernel
theorem hd_X5_coals : yX5_coals.cls = RX5 ∧ yX5_coals.cls ≠ "java/lang/invoke/MethodHandle" ∧ yX5_coals.cls ≠ "java/lang/invoke/VarHandle" ∧ (parseMethodDescriptor yX5_coals.desc).map (fun d => d.parameters.length) = some 0 := by decide +kernel
theorem hd_X4_byOther : yX4_byOther.cls = RX4 ∧ yX4_byOther.cls ≠ "java/lang/invoke/MethodHandle" ∧ yX4_byOther.cls ≠ "java/lang/invoke/VarHandle" ∧ (parseMethodDescriptor yX4_byOther.desc).map (fun d => d.parameters.length) = some 2 := by decide +kernel
theorem hd_X5_byOther : yX5_byOther.cls = RX5 ∧ yX5_byOther.cls ≠ "java/lang/invoke/MethodHandle" ∧ yX5_byOther.cls ≠ "java/lang/invoke/VarHandle" ∧ (parseMethodDescriptor yX5_byOther.desc).map (fun d => d.parameters.length) = some 2 := by decide +kernel
theorem hd_X4_bestFar : yX4_bestFar.cls = RX4 ∧ yX4_bestFar.cls ≠ "java/lang/invoke/MethodHandle" ∧ yX4_bestFar.cls ≠ "java/lang/invoke/VarHandle" ∧ (parseMethodDescriptor yX4_bestFar.desc).map (fun d => d.parameters.length) = some 0 := by decide +kernel
theorem hd_X5_bestFar : yX5_bestFar.cls = RX5 ∧ yX5_bestFar.cls ≠ "java/lang/invoke/MethodHandle" ∧ yX5_bestFar.cls ≠ "java/lang/invoke/VarHandle" ∧ (parseMethodDescriptor yX5_bestFar.desc).map (fun d => d.parameters.length) = some 0 := by decide +kernel
theorem hd_X4_bestCustom : yX4_bestCustom.cls = RX4 ∧ yX4_bestCustom.cls ≠ "java/lang/invoke/MethodHandle" ∧ yX4_bestCustom.cls ≠ "java/lang/invoke/VarHandle" ∧ (parseMethodDescriptor yX4_bestCustom.desc).map (fun d => d.parameters.length) = some 0 := by decide +kernel
theorem hd_X5_bestCustom : yX5_bestCustom.cls = RX5 ∧ yX5_bestCustom.cls ≠ "java/lang/invoke/MethodHandle" ∧ yX5_bestCustom.cls ≠ "java/lang/invoke/VarHandle" ∧ (parseMethodDescriptor yX5_bestCustom.desc).map (fun d => d.parameters.length) = some 0 := by decide +kernel
theorem hd_X4_bestShuts : yX4_bestShuts.cls = RX4 ∧ yX4_bestShuts.cls ≠ "java/lang/invoke/MethodHandle" ∧ yX4_bestShuts.cls ≠ "java/lang/invoke/VarHandle" ∧ (parseMethodDescriptor yX4_bestShuts.desc).map (fun d => d.parameters.length) = some 0 := by decide +kernel
theorem hd_X5_bestShuts : yX5_bestShuts.cls = RX5 ∧ yX5_bestShuts.cls ≠ "java/lang/invoke/MethodHandle" ∧ yX5_bestShuts.cls ≠ "java/lang/invoke/VarHandle" ∧ (parseMethodDescriptor yX5_bestShuts.desc).map (fun d => d.parameters.length) = some 0 := by decide +kernel
theorem hd_X4_worse : yX4_worse.cls = RX4 ∧ yX4_worse.cls ≠ "java/lang/invoke/MethodHandle" ∧ yX4_worse.cls ≠ "java/lang/invoke/VarHandle" ∧ (parseMethodDescriptor yX4_worse.desc).map (fun d => d.parameters.length) = some 0 := by decide +kernel
theorem hd_X5_worse : yX5_worse.cls = RX5 ∧ yX5_worse.cls ≠ "java/lang/invoke/MethodHandle" ∧ yX5_worse.cls ≠ "java/lang/invoke/VarHandle" ∧ (parseMethodDescriptor yX5_worse.desc).map (fun d => d.parameters.length) = some 0 := by decide +kernel
theorem hd_X4_followed : yX4_followed.cls = RX4 ∧ yX4_followed.cls ≠ "java/lang/invoke/MethodHandle" ∧ yX4_followed.cls ≠ "java/lang/invoke/VarHandle" ∧ (parseMethodDescriptor yX4_followed.desc).map (fun d => d.parameters.length) = some 0 := by decide +kernel
theorem hd_X5_followed : yX5_followed.cls = RX5 ∧ yX5_followed.cls ≠ "java/lang/invoke/MethodHandle" ∧ yX5_followed.cls ≠ "java/lang/invoke/VarHandle" ∧ (parseMethodDescriptor yX5_followed.desc).map (fun d => d.parameters.length) = some 0 := by decide +kernel
theorem hd_X4_porter : yX4_porter.cls = RX4 ∧ yX4_porter.cls ≠ "java/lang/invoke/MethodHandle" ∧ yX4_porter.cls ≠ "java/lang/invoke/VarHandle" ∧ (parseMethodDescriptor yX4_porter.desc).map (fun d => d.parameters.length) = some 0 := by decide +kernel
theorem hd_X5_porter : yX5_porter.cls = RX5 ∧ yX5_porter.cls ≠ "java/lang/invoke/MethodHandle" ∧ yX5_porter.cls ≠ "java/lang/invoke/VarHandle" ∧ (parseMethodDescriptor yX5_porter.desc).map (fun d => d.parameters.length) = some 0 := by decide +kernel
theorem hd_X4_alone : yX4_alone.cls = RX4 ∧ yX4_alone.cls ≠ "java/lang/invoke/MethodHandle" ∧ yX4_alone.cls ≠ "java/lang/invoke/VarHandle" ∧ (parseMethodDescriptor yX4_alone.desc).map (fun d => d.parameters.length) = some 1 := by decide +kernel
theorem hd_X5_alone : yX5_alone.cls = RX5 ∧ yX5_alone.cls ≠ "java/lang/invoke/MethodHandle" ∧ yX5_alone.cls ≠ "java/lang/invoke/VarHandle" ∧ (parseMethodDescriptor yX5_alone.desc).map (fun d => d.parameters.length) = some 1 := by decide +kernel
theorem hd_X4_film : yX4_film.cls = RX4 ∧ yX4_film.cls ≠ "java/lang/invoke/MethodHandle" ∧ yX4_film.cls ≠ "java/lang/invoke/VarHandle" ∧ (parseMethodDescriptor yX4_film.desc).map (fun d => d.parameters.length) = some 4 := by decide +kernel
theorem hd_X5_film : yX5_film.cls = RX5 ∧ yX5_film.cls ≠ "java/lang/invoke/MethodHandle" ∧ yX5_film.cls ≠ "java/lang/invoke/VarHandle" ∧ (parseMethodDescriptor yX5_film.desc).map (fun d => d.parameters.length) = some 4 := by decide +kernel
theorem hd_X4_told : yX4_told.cls = RX4 ∧ yX4_told.cls ≠ "java/lang/invoke/MethodHandle" ∧ yX4_told.cls ≠ "java/lang/invoke/VarHandle" ∧ (parseMethodDescriptor yX4_told.desc).map (fun d => d.parameters.length) = some 3 := by decide +kernel
theorem hd_X5_told : yX5_told.cls = RX5 ∧ yX5_told.cls ≠ "java/lang/invoke/MethodHandle" ∧ yX5_told.cls ≠ "java/lang/invoke/VarHandle" ∧ (parseMethodDescriptor yX5_told.desc).map (fun d => d.parameters.length) = some 3 := by decide +kernel
theorem hd_X4_fitting : yX4_fitting.cls = RX4 ∧ yX4_fitting.cls ≠ "java/lang/invoke/MethodHandle" ∧ yX4_fitting.cls ≠ "java/lang/invoke/VarHandle" ∧ (parseMethodDescriptor yX4_fitting.desc).map (fun d => d.parameters.length) = some 2 := by decide +kernel
theorem hd_X5_fitting : yX5_fitting.cls = RX5 ∧ yX5_fitting.cls ≠ "java/lang/invoke/MethodHandle" ∧ yX5_fitting.cls ≠ "java/lang/invoke/VarHandle" ∧ (parseMethodDescriptor yX5_fitting.desc).map (fun d => d.parameters.length) = some 2 := by decide +kernel
theorem hd_X4_seeds : yX4_seeds.cls = RX4 ∧ yX4_seeds.cls ≠ "java/lang/invoke/MethodHandle" ∧ yX4_seeds.cls ≠ "java/lang/invoke/VarHandle" ∧ (parseMethodDescriptor yX4_seeds.desc).map (fun d => d.parameters.length) = some 2 := by decide +kernel
theorem hd_X5_seeds : yX5_seeds.cls = RX5 ∧ yX5_seeds.cls ≠ "java/lang/invoke/MethodHandle" ∧ yX5_seeds.cls ≠ "java/lang/invoke/VarHandle" ∧ (parseMethodDescriptor yX5_seeds.desc).map (fun d => d.parameters.length) = some 2 := by decide +kernel
theorem hd_X4_row : yX4_row.cls = RX4 ∧ yX4_row.cls ≠ "java/lang/invoke/MethodHandle" ∧ yX4_row.cls ≠ "java/lang/invoke/VarHandle" ∧ (parseMethodDescriptor yX4_row.desc).map (fun d => d.parameters.length) = some 1 := by decide +kernel
theorem hd_X5_row : yX5_row.cls = RX5 ∧ yX5_row.cls ≠ "java/lang/invoke/MethodHandle" ∧ yX5_row.cls ≠ "java/lang/invoke/VarHandle" ∧ (parseMethodDescriptor yX5_row.desc).map (fun d => d.parameters.length) = some 1 := by decide +kernel
theorem hd_X4_judge : yX4_judge.cls = RX4 ∧ yX4_judge.cls ≠ "java/lang/invoke/MethodHandle" ∧ yX4_judge.cls ≠ "java/lang/invoke/VarHandle" ∧ (parseMethodDescriptor yX4_judge.desc).map (fun d => d.parameters.length) = some 0 := by decide +kernel
theorem hd_X5_judge : yX5_judge.cls = RX5 ∧ yX5_judge.cls ≠ "java/lang/invoke/MethodHandle" ∧ yX5_judge.cls ≠ "java/lang/invoke/VarHandle" ∧ (parseMethodDescriptor yX5_judge.desc).map (fun d => d.parameters.length) = some 0 := by decide +kernel
theorem hd_X4_image : yX4_image.cls = RX4 ∧ yX4_image.cls ≠ "java/lang/invoke/MethodHandle" ∧ yX4_image.cls ≠ "java/lang/invoke/VarHandle" ∧ (parseMethodDescriptor yX4_image.desc).map (fun d => d.parameters.length) = some 0 := by decide +kernel
theorem hd_X5_image : yX5_image.cls = RX5 ∧ yX5_image.cls ≠ "java/lang/invoke/MethodHandle" ∧ yX5_image.cls ≠ "java/lang/invoke/VarHandle" ∧ (parseMethodDescriptor yX5_image.desc).map (fun d => d.parameters.length) = some 0 := by decide +kernel
theorem hd_X4_on : yX4_on.cls = RX4 ∧ yX4_on.cls ≠ "java/lang/invoke/MethodHandle" ∧ yX4_on.cls ≠ "java/lang/invoke/VarHandle" ∧ (parseMethodDescriptor yX4_on.desc).map (fun d => d.parameters.length) = some 0 := by decide +kernel
theorem hd_X5_on : yX5_on.cls = RX5 ∧ yX5_on.cls ≠ "java/lang/invoke/MethodHandle" ∧ yX5_on.cls ≠ "java/lang/invoke/VarHandle" ∧ (parseMethodDescriptor yX5_on.desc).map (fun d => d.parameters.length) = some 0 := by decide +kernel
theorem hd_X4_count : yX4_count.cls = RX4 ∧ yX4_count.cls ≠ "java/lang/invoke/MethodHandle" ∧ yX4_count.cls ≠ "java/lang/invoke/VarHandle" ∧ (parseMethodDescriptor yX4_count.desc).map (fun d => d.parameters.length) = some 1 := by decide +kernel
theorem hd_X5_count : yX5_count.cls = RX5 ∧ yX5_count.cls ≠ "java/lang/invoke/MethodHandle" ∧ yX5_count.cls ≠ "java/lang/invoke/VarHandle" ∧ (parseMethodDescriptor yX5_count.desc).map (fun d => d.parameters.length) = some 1 := by decide +kernel
def zFl (bs : List va_W) : va_W := bs.flatten
theorem zsp {bs : List va_W} {n : Nat} (hn : (List.range n).filterMap (fun i => bs[i]?) = bs) (isC isR : List Nat) (hp : (List.range n).Perm (isR ++ isC)) : (zFl bs).Perm (zFl (isR.filterMap (fun i => bs[i]?)) ++ zFl (isC.filterMap (fun i => bs[i]?))) := by
  have h1 := (hp.filterMap (fun i => bs[i]?)).flatten
  rw [hn, List.filterMap_append, List.flatten_append] at h1
  exact h1
theorem zP_perm {D : va_G} {cl : List vw_C} {W W' : va_W} {H : Heap} (h : va_P D cl W H) (hp : W.Perm W') : va_P D cl W' H := by
  intro k q hk
  obtain ⟨i, hi⟩ := List.getElem?_of_mem (hp.symm.subset (List.mem_of_getElem? hk))
  exact h i q hi
theorem zP_r {D : va_G} {cl : List vw_C} {W W' : va_W} {H : Heap} (h : va_P D cl (W ++ W') H) : va_P D cl W' H := by
  intro k q hk
  obtain ⟨i, hi⟩ := List.getElem?_of_mem (List.mem_append_right W (List.mem_of_getElem? hk))
  exact h i q hi
theorem zP_l {D : va_G} {cl : List vw_C} {W W' : va_W} {H : Heap} (h : va_P D cl (W ++ W') H) : va_P D cl W H := by
  intro k q hk
  obtain ⟨i, hi⟩ := List.getElem?_of_mem (List.mem_append_left W' (List.mem_of_getElem? hk))
  exact h i q hi
theorem zD_nd {A : Nat → Prop} {W : va_W} (h : va_D A W) : (W.map Prod.fst).Nodup := by
  unfold List.Nodup
  rw [List.pairwise_map, List.pairwise_iff_getElem]
  intro i j hi hj hij e
  have := h.1 i j W[i] W[j] (List.getElem?_eq_getElem hi) (List.getElem?_eq_getElem hj) e
  omega
theorem zD_of {A : Nat → Prop} {W : va_W} (hn : (W.map Prod.fst).Nodup) (hA : ∀ x ∈ W, A x.1) : va_D A W := by
  unfold List.Nodup at hn
  rw [List.pairwise_map, List.pairwise_iff_getElem] at hn
  refine ⟨fun i j p q hi hj e => ?_, fun k q hk => hA q (List.mem_of_getElem? hk)⟩
  obtain ⟨hi', rfl⟩ := List.getElem?_eq_some_iff.mp hi
  obtain ⟨hj', rfl⟩ := List.getElem?_eq_some_iff.mp hj
  rcases Nat.lt_trichotomy i j with z | z | z
  · exact absurd e (hn i j hi' hj' z)
  · exact z
  · exact absurd e.symm (hn j i hj' hi' z)
theorem zD_in {A : Nat → Prop} {W : va_W} (h : va_D A W) : ∀ x ∈ W, A x.1 := by
  intro x hx
  obtain ⟨i, hi⟩ := List.getElem?_of_mem hx
  exact h.2 i x hi
theorem zD_perm {A : Nat → Prop} {W W' : va_W} (h : va_D A W) (hp : W.Perm W') : va_D A W' := zD_of ((hp.map Prod.fst).nodup_iff.mp (zD_nd h)) (fun x hx => zD_in h x (hp.symm.subset hx))
theorem zD_r {A : Nat → Prop} {W W' : va_W} (h : va_D A (W ++ W')) : va_D A W' := by
  have := zD_nd h
  rw [List.map_append] at this
  exact zD_of (List.nodup_append.mp this).2.1 (fun x hx => zD_in h x (List.mem_append_right W hx))
theorem zD_ap {A : Nat → Prop} {W W' : va_W} (h : va_D A (W ++ W')) : ∀ x ∈ W, ∀ y ∈ W', ¬ x.1 = y.1 := by
  have := zD_nd h
  rw [List.map_append] at this
  intro x hx y hy
  exact (List.nodup_append.mp this).2.2 x.1 (List.mem_map_of_mem hx) y.1 (List.mem_map_of_mem hy)
section ZCP
variable {p : Program} {l : Launch} {e : Env} {R : Room} {s : State} {m : MethodId} {args : Array Value} {below : List Frame} {meth : Method} {c : Code} {H : Heap} {locs : List Loc} {Q : State → Prop} {pc cells slots : Nat} {ls : Array Slot} {rest st0 : List Value} {a : Array Value} {A : Nat → Prop} {H0 : Heap} {D : va_G}
theorem zc_p {S : Type} {post : Int32 → S → Prop} {w1 wd' : S → va_W} {wd wr wc : va_W} (hr : va_Run p l e R s m args below meth c H locs cells slots 0 0 (F0 m pc ls st0) rest (va_Qi post (fun u t => va_P D zCl (w1 u) t.heap) (va_A wc H.size) a) (va_A wc H.size))
    (hS : va_S A H0 H locs) (hA : ∀ q : Nat, H0.size ≤ q → A q) (hP : va_P D zCl wd H) (hD : va_D A wd) (h1 : wd.Perm (wr ++ wc)) (h2 : ∀ u, (wd' u).Perm (wr ++ w1 u)) (ha1 : ∀ u, (w1 u).map Prod.fst = wc.map Prod.fst)
    (kk : ∀ (r : Int32) (u : S) (H1 : Heap) (locs1 : List Loc), post r u → va_P D zCl (wd' u) H1 → va_D A (wd' u) → va_S A H0 H1 locs1 → W p l e R s m args below meth c H1 locs1 cells slots Q (F0 m (pc + 3) ls (.int r :: rest))) : W p l e R s m args below meth c H locs cells slots Q (F0 m pc ls st0) := by
  have hP1 := zP_perm hP h1
  have hD1 := zD_perm hD h1
  have hDc := zD_r hD1
  have hF := zfree hS hA hDc
  refine va_calli hr hS (fun q _ h => hF q h) hF (fun r u t H1 locs1 ht hvm hp hB hz hk hS1 => ?_)
  rw [ht] at hB
  have hr1 : va_P D zCl wr H1 := (zP_l hP1).kept (fun k x hx => hk x.1 ((zP_l hP1 k x hx).lt) (fun z => by
    rcases z with ⟨k', e, hk'⟩ | z
    · exact zD_ap hD1 x (List.mem_of_getElem? hx) (x.1, e) (List.mem_of_getElem? hk') rfl
    · have := (zP_l hP1 k x hx).lt
      omega))
  have hP2 : va_P D zCl (wr ++ w1 u) H1 := hr1.app hB
  have hD2 : va_D A (wr ++ w1 u) := zD_eq hD1 (by rw [List.map_append, List.map_append, ha1])
  exact kk r u H1 locs1 hp (zP_perm hP2 (h2 u).symm) (zD_perm hD2 (h2 u).symm) hS1
end ZCP
def zLC (p : Program) (l : Launch) (e : Env) (s : State) (m : MethodId) (below : List Frame) (meth : Method) (c : Code) (D : va_G) (cy : ClassId) (b L : Nat) (xs : Nat → Int32) (ah an am af ai aj al ag az : Nat → Nat) (i : Nat) : Prop := lw_At p s m meth c b L xs ∧ va_K D zCl (zA cy) s ∧ (∀ w ∈ zN, va_Nw w s) ∧ zCo (fun q : Nat => s.heap.size ≤ q) s s.heap
def zLs1 (p : Program) (l : Launch) (e : Env) (s : State) (m : MethodId) (below : List Frame) (meth : Method) (c : Code) (D : va_G) (cy : ClassId) (b L : Nat) (xs : Nat → Int32) (ah an am af ai aj al ag az : Nat → Nat) (i : Nat) (pc : Nat) : Prop := ∀ (S Sn Sm Sf Si Sj Sl Sg M : zT) (H : Heap) (locs : List Loc) (ls : Array Slot), va_P D zCl (zFl [bX4 ah an am af ai aj al ag cy S, bX3 an cy Sn, bX3 am cy Sm, bX0 af cy Sf, bX3 ai cy Si, bX0 aj cy Sj, bX2 al cy Sl, bX1 ag cy Sg, bX5 az cy M]) H → va_D (fun q : Nat => s.heap.size ≤ q) (zFl [bX4 ah an am af ai aj al ag cy S, bX3 an cy Sn, bX3 am cy Sm, bX0 af cy Sf, bX3 ai cy Si, bX0 aj cy Sj, bX2 al cy Sl, bX1 ag cy Sg, bX5 az cy M]) → va_S (fun q : Nat => s.heap.size ≤ q) s.heap H locs → Inv S Sn Sf Si Sj Sl M → lv_has ls 4 [(0, .ref b), (1, .ref (ah 99)), (2, .ref (az 99)), (3, .int (nI i))] → W p l e room_1 s m #[Value.ref b] below meth c H locs 67 1436 (lw_Z below #[Value.ref b] s) (F0 m pc ls [])
theorem Inv_0 : Inv z0X4 z0X3 z0X0 z0X3 z0X0 z0X2 z0X5 := by
  refine ⟨⟨by decide +kernel, by decide +kernel, rfl⟩, ⟨0, rfl, by decide, ⟨fun k => ([4, 2, 1, 5, 1] : List Nat).getD k 0, by decide +kernel, by decide, by decide, by decide, by decide, by decide, by decide⟩, fun w hw => absurd hw (Nat.not_lt_zero w)⟩, ⟨by decide +kernel, rfl⟩, ⟨0, rfl, by decide, fun i hi => absurd hi (Nat.not_lt_zero i)⟩, ⟨by decide +kernel, rfl⟩, ⟨0, rfl, by decide, fun i hi => absurd hi (Nat.not_lt_zero i)⟩, ⟨by decide +kernel, rfl, rfl, by decide +kernel, ⟨0, rfl, by decide⟩⟩, Or.inl rfl⟩

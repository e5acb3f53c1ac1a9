/-! RULES: a frame one instruction on -/
theorem i_toInt {x : Int} (h : inI x) : (Int32.ofInt x).toInt = x := Int32.toInt_ofInt_of_le (by have := h.1; omega) (by have := h.2; omega)
theorem l_toInt {x : Int} (h : inL x) : (Int64.ofInt x).toInt = x := Int64.toInt_ofInt_of_le (by have := h.1; omega) (by have := h.2; omega)
theorem i_lt {x y : Int} (hx : inI x) (hy : inI y) : Int32.ofInt x < Int32.ofInt y ↔ x < y := by rw [Int32.lt_iff_toInt_lt, i_toInt hx, i_toInt hy]
theorem i_le {x y : Int} (hx : inI x) (hy : inI y) : Int32.ofInt x ≤ Int32.ofInt y ↔ x ≤ y := by rw [Int32.le_iff_toInt_le, i_toInt hx, i_toInt hy]
theorem i_eq {x y : Int} (hx : inI x) (hy : inI y) : Int32.ofInt x = Int32.ofInt y ↔ x = y := by rw [← Int32.toInt_inj, i_toInt hx, i_toInt hy]
theorem l_lt {x y : Int} (hx : inL x) (hy : inL y) : Int64.ofInt x < Int64.ofInt y ↔ x < y := by rw [Int64.lt_iff_toInt_lt, l_toInt hx, l_toInt hy]
theorem l_eq {x y : Int} (hx : inL x) (hy : inL y) : Int64.ofInt x = Int64.ofInt y ↔ x = y := by rw [← Int64.toInt_inj, l_toInt hx, l_toInt hy]
theorem i_zero : inI 0 := ⟨by decide, by decide⟩
theorem i_in {x : Int} {n : Nat} (hx : inI x) (h0 : 0 ≤ x) (h1 : x < n) : vp_in (Int32.ofInt x) n := by
  rw [vp_in_iff, i_toInt hx]
  exact ⟨h0, h1⟩
theorem i_clamp {x : Int} (hx : inI x) : (Int32.ofInt x).toNatClampNeg = x.toNat := by
  rw [← Int32.toNat_toInt, i_toInt hx]
section Rules
variable {M : MM} {d fc fs : Nat} {sc : Option (Nat × (Nat → Int))} {pc : Nat} {ls : List (Nat × AV)} {st : List AV} {K : Shp} {H : Mem} {Q : Option AV → Shp → Mem → Prop}
/-- a step that looks at the stack alone -/
theorem Fr.pure {pc' : Nat} {st1 st2 : List AV} (k : Fr M d fc fs sc pc' ls st2 K H Q) (ho : (∀ v ∈ st1, okV K.length v) → ∀ v ∈ st2, okV K.length v)
    (hw : ∀ {p : Program} {l : Launch} {e : Env} {R : Room} {s : State} {m : MethodId} {args : Array Value} {below : List Frame} {meth : Method} {c : Code} {Hp : Heap} {locs : List Loc} {cells slots : Nat} {QM : State → Prop} (φ : Nat → Nat) (b : Nat) (lsA : Array Slot), p.tables.exec = Jvm.exec → c.code = M.2.1 → s.vm.findClass M.1.cls = some m.cls → (∀ w ∈ lw_good, w.before args s = true) → (∀ v ∈ st1, okV K.length v) →
      W p l e R s m args below meth c Hp locs cells slots QM (F0 m pc' lsA (st2.map (toV φ b))) → W p l e R s m args below meth c Hp locs cells slots QM (F0 m pc lsA (st1.map (toV φ b)))) : Fr M d fc fs sc pc ls st1 K H Q := by
  intro p l e R s m args below meth c base b D aC n0 φ0 φ Hp locs cells slots lsA QM hC hR1 hR2 hc1 hc2 hP hS hl hlo hso hn hag hret
  exact hw φ b lsA hC.1 hC.2.1 hC.2.2.2.2.1 hC.2.2.2.2.2.1 hso (k p l e R s m args below meth c base b D aC n0 φ0 φ Hp locs cells slots lsA QM hC hR1 hR2 hc1 hc2 hP hS hl hlo (ho hso) hn hag hret)
theorem ok_push {n : Nat} {v : AV} {st : List AV} (hv : okV n v) (h : ∀ x ∈ st, okV n x) : ∀ x ∈ v :: st, okV n x := fun x hx => (List.mem_cons.mp hx).elim (fun e => e ▸ hv) (h x)
theorem ok_1 {n : Nat} {v : AV} {st : List AV} (h : ∀ x ∈ v :: st, okV n x) : okV n v ∧ ∀ x ∈ st, okV n x := ⟨h v List.mem_cons_self, fun x hx => h x (List.mem_cons_of_mem _ hx)⟩
theorem ok_2 {n : Nat} {v w : AV} {st : List AV} (h : ∀ x ∈ v :: w :: st, okV n x) : okV n v ∧ okV n w ∧ ∀ x ∈ st, okV n x := ⟨(ok_1 h).1, ok_1 (ok_1 h).2⟩
/-- constants -/
theorem r_iconst {x : Int} (hd : decode M.2.1 pc = .ok (.iconst x, 1)) (h1 : -2147483648 ≤ x) (h2 : x ≤ 2147483647) (k : Fr M d fc fs sc (pc + 1) ls ((0, x) :: st) K H Q) : Fr M d fc fs sc pc ls st K H Q :=
  Fr.pure k (ok_push ⟨h1, h2⟩) (fun φ b lsA hx hb _ _ _ w => lv_iconst hx hb hd rfl w)
theorem r_bipush {x : Int} (hd : decode M.2.1 pc = .ok (.bipush x, 2)) (h1 : -128 ≤ x) (h2 : x ≤ 127) (k : Fr M d fc fs sc (pc + 2) ls ((0, x) :: st) K H Q) : Fr M d fc fs sc pc ls st K H Q :=
  Fr.pure k (ok_push (⟨by omega, by omega⟩ : inI x)) (fun φ b lsA hx hb _ _ _ w => lv_bipush hx hb hd (by
    rw [← Int32.ofInt_int8ToInt, Int8.toInt_ofInt_of_le (by omega) (by omega)]) w)
theorem r_sipush {x : Int} (hd : decode M.2.1 pc = .ok (.sipush x, 3)) (h1 : -32768 ≤ x) (h2 : x ≤ 32767) (k : Fr M d fc fs sc (pc + 3) ls ((0, x) :: st) K H Q) : Fr M d fc fs sc pc ls st K H Q :=
  Fr.pure k (ok_push (⟨by omega, by omega⟩ : inI x)) (fun φ b lsA hx hb _ _ _ w => lv_sipush hx hb hd (by
    rw [← Int32.ofInt_int16ToInt, Int16.toInt_ofInt_of_le (by omega) (by omega)]) w)
theorem r_lconst0 (hd : decode M.2.1 pc = .ok (.lconst 0, 1)) (k : Fr M d fc fs sc (pc + 1) ls ((1, 0) :: st) K H Q) : Fr M d fc fs sc pc ls st K H Q :=
  Fr.pure k (ok_push (⟨by decide, by decide⟩ : inL 0)) (fun φ b lsA hx hb _ _ _ w => lv_lconst hx hb hd rfl w)
theorem r_lconst1 (hd : decode M.2.1 pc = .ok (.lconst 1, 1)) (k : Fr M d fc fs sc (pc + 1) ls ((1, 1) :: st) K H Q) : Fr M d fc fs sc pc ls st K H Q :=
  Fr.pure k (ok_push (⟨by decide, by decide⟩ : inL 1)) (fun φ b lsA hx hb _ _ _ w => lv_lconst hx hb hd rfl w)
theorem r_ldc {i : Nat} {x : Int} (hd : decode M.2.1 pc = .ok (.ldc i, 2)) (hw : Cond.constant M.1.cls i (Int32.ofInt x) ∈ lw_good) (h1 : -2147483648 ≤ x) (h2 : x ≤ 2147483647) (k : Fr M d fc fs sc (pc + 2) ls ((0, x) :: st) K H Q) : Fr M d fc fs sc pc ls st K H Q :=
  Fr.pure k (ok_push ⟨h1, h2⟩) (fun φ b lsA hx hb ho hts _ w => lv_ldc hx hb ho (hts _ hw) hd w)
theorem r_ldc2 {i : Nat} {x : Int} (hd : decode M.2.1 pc = .ok (.ldc2_w i, 3)) (hw : Cond.constantLong M.1.cls i (Int64.ofInt x) ∈ lw_good) (h1 : -9223372036854775808 ≤ x) (h2 : x ≤ 9223372036854775807) (k : Fr M d fc fs sc (pc + 3) ls ((1, x) :: st) K H Q) : Fr M d fc fs sc pc ls st K H Q :=
  Fr.pure k (ok_push ⟨h1, h2⟩) (fun φ b lsA hx hb ho hts _ w => lv_ldc2 hx hb ho (hts _ hw) hd w)
/-- int and long arithmetic -/
theorem r_iadd {x y : Int} (hd : decode M.2.1 pc = .ok (.iadd, 1)) (h : inI (x + y)) (k : Fr M d fc fs sc (pc + 1) ls ((0, x + y) :: st) K H Q) : Fr M d fc fs sc pc ls ((0, y) :: (0, x) :: st) K H Q :=
  Fr.pure k (fun o => ok_push h (ok_2 o).2.2) (fun φ b lsA hx hb _ _ _ w => lv_iadd hx hb hd (by
    rw [← Int32.ofInt_add]; exact w))
theorem r_isub {x y : Int} (hd : decode M.2.1 pc = .ok (.isub, 1)) (h : inI (x - y)) (k : Fr M d fc fs sc (pc + 1) ls ((0, x - y) :: st) K H Q) : Fr M d fc fs sc pc ls ((0, y) :: (0, x) :: st) K H Q :=
  Fr.pure k (fun o => ok_push h (ok_2 o).2.2) (fun φ b lsA hx hb _ _ _ w => lv_isub hx hb hd (by
    rw [← Int32.ofInt_sub]; exact w))
theorem r_imul {x y : Int} (hd : decode M.2.1 pc = .ok (.imul, 1)) (h : inI (x * y)) (k : Fr M d fc fs sc (pc + 1) ls ((0, x * y) :: st) K H Q) : Fr M d fc fs sc pc ls ((0, y) :: (0, x) :: st) K H Q :=
  Fr.pure k (fun o => ok_push h (ok_2 o).2.2) (fun φ b lsA hx hb _ _ _ w => lv_imul hx hb hd (by
    rw [← Int32.ofInt_mul]; exact w))
theorem r_ineg {x : Int} (hd : decode M.2.1 pc = .ok (.ineg, 1)) (h : inI (-x)) (k : Fr M d fc fs sc (pc + 1) ls ((0, -x) :: st) K H Q) : Fr M d fc fs sc pc ls ((0, x) :: st) K H Q :=
  Fr.pure k (fun o => ok_push h (ok_1 o).2) (fun φ b lsA hx hb _ _ _ w => lv_ineg hx hb hd (by
    rw [← Int32.ofInt_neg]; exact w))
theorem r_ladd {x y : Int} (hd : decode M.2.1 pc = .ok (.ladd, 1)) (h : inL (x + y)) (k : Fr M d fc fs sc (pc + 1) ls ((1, x + y) :: st) K H Q) : Fr M d fc fs sc pc ls ((1, y) :: (1, x) :: st) K H Q :=
  Fr.pure k (fun o => ok_push h (ok_2 o).2.2) (fun φ b lsA hx hb _ _ _ w => lv_ladd hx hb hd (by
    rw [← Int64.ofInt_add]; exact w))
theorem r_lsub {x y : Int} (hd : decode M.2.1 pc = .ok (.lsub, 1)) (h : inL (x - y)) (k : Fr M d fc fs sc (pc + 1) ls ((1, x - y) :: st) K H Q) : Fr M d fc fs sc pc ls ((1, y) :: (1, x) :: st) K H Q :=
  Fr.pure k (fun o => ok_push h (ok_2 o).2.2) (fun φ b lsA hx hb _ _ _ w => lv_lsub hx hb hd (by
    rw [← Int64.ofInt_sub]; exact w))
theorem r_lmul {x y : Int} (hd : decode M.2.1 pc = .ok (.lmul, 1)) (h : inL (x * y)) (k : Fr M d fc fs sc (pc + 1) ls ((1, x * y) :: st) K H Q) : Fr M d fc fs sc pc ls ((1, y) :: (1, x) :: st) K H Q :=
  Fr.pure k (fun o => ok_push h (ok_2 o).2.2) (fun φ b lsA hx hb _ _ _ w => lv_lmul hx hb hd (by
    rw [← Int64.ofInt_mul]; exact w))
theorem r_lneg {x : Int} (hd : decode M.2.1 pc = .ok (.lneg, 1)) (h : inL (-x)) (k : Fr M d fc fs sc (pc + 1) ls ((1, -x) :: st) K H Q) : Fr M d fc fs sc pc ls ((1, x) :: st) K H Q :=
  Fr.pure k (fun o => ok_push h (ok_1 o).2) (fun φ b lsA hx hb _ _ _ w => lv_lneg hx hb hd (by
    rw [← Int64.ofInt_neg]; exact w))
theorem i_ne0 {y : Int} (hy : inI y) (h : y ≠ 0) : ¬ Int32.ofInt y = 0 := fun q => h ((i_eq hy i_zero).mp q)
theorem l_ne0 {y : Int} (hy : inL y) (h : y ≠ 0) : ¬ Int64.ofInt y = 0 := fun q => h ((l_eq hy ⟨by decide, by decide⟩).mp q)
theorem i_div {x y : Int} (hx : inI x) (hy : inI y) : Int32.ofInt x / Int32.ofInt y = Int32.ofInt (x.tdiv y) := (Int32.ofInt_tdiv hx.1 hx.2 hy.1 hy.2).symm
theorem l_div {x y : Int} (hx : inL x) (hy : inL y) : Int64.ofInt x / Int64.ofInt y = Int64.ofInt (x.tdiv y) := (Int64.ofInt_tdiv hx.1 hx.2 hy.1 hy.2).symm
theorem i_rem {x y : Int} (hx : inI x) (hy : inI y) : Int32.ofInt x - Int32.ofInt x / Int32.ofInt y * Int32.ofInt y = Int32.ofInt (x.tmod y) := by
  rw [i_div hx hy, ← Int32.ofInt_mul, ← Int32.ofInt_sub, Int.tmod_def, Int.mul_comm]
theorem l_rem {x y : Int} (hx : inL x) (hy : inL y) : Int64.ofInt x - Int64.ofInt x / Int64.ofInt y * Int64.ofInt y = Int64.ofInt (x.tmod y) := by
  rw [l_div hx hy, ← Int64.ofInt_mul, ← Int64.ofInt_sub, Int.tmod_def, Int.mul_comm]
theorem r_idiv {x y : Int} (hd : decode M.2.1 pc = .ok (.idiv, 1)) (hy : y ≠ 0) (h : inI (x.tdiv y)) (k : Fr M d fc fs sc (pc + 1) ls ((0, x.tdiv y) :: st) K H Q) : Fr M d fc fs sc pc ls ((0, y) :: (0, x) :: st) K H Q :=
  Fr.pure k (fun o => ok_push h (ok_2 o).2.2) (fun φ b lsA hx hb _ _ o w => lv_idiv hx hb hd (i_ne0 (ok_2 o).1 hy) (by
    rw [i_div (ok_2 o).2.1 (ok_2 o).1]; exact w))
theorem r_irem {x y : Int} (hd : decode M.2.1 pc = .ok (.irem, 1)) (hy : y ≠ 0) (h : inI (x.tmod y)) (k : Fr M d fc fs sc (pc + 1) ls ((0, x.tmod y) :: st) K H Q) : Fr M d fc fs sc pc ls ((0, y) :: (0, x) :: st) K H Q :=
  Fr.pure k (fun o => ok_push h (ok_2 o).2.2) (fun φ b lsA hx hb _ _ o w => lv_irem hx hb hd (i_ne0 (ok_2 o).1 hy) (by
    rw [i_rem (ok_2 o).2.1 (ok_2 o).1]; exact w))
theorem r_ldiv {x y : Int} (hd : decode M.2.1 pc = .ok (.ldiv, 1)) (hy : y ≠ 0) (h : inL (x.tdiv y)) (k : Fr M d fc fs sc (pc + 1) ls ((1, x.tdiv y) :: st) K H Q) : Fr M d fc fs sc pc ls ((1, y) :: (1, x) :: st) K H Q :=
  Fr.pure k (fun o => ok_push h (ok_2 o).2.2) (fun φ b lsA hx hb _ _ o w => lv_ldiv hx hb hd (l_ne0 (ok_2 o).1 hy) (by
    rw [l_div (ok_2 o).2.1 (ok_2 o).1]; exact w))
theorem r_lrem {x y : Int} (hd : decode M.2.1 pc = .ok (.lrem, 1)) (hy : y ≠ 0) (h : inL (x.tmod y)) (k : Fr M d fc fs sc (pc + 1) ls ((1, x.tmod y) :: st) K H Q) : Fr M d fc fs sc pc ls ((1, y) :: (1, x) :: st) K H Q :=
  Fr.pure k (fun o => ok_push h (ok_2 o).2.2) (fun φ b lsA hx hb _ _ o w => lv_lrem hx hb hd (l_ne0 (ok_2 o).1 hy) (by
    rw [l_rem (ok_2 o).2.1 (ok_2 o).1]; exact w))
theorem r_i2l {x : Int} (hd : decode M.2.1 pc = .ok (.i2l, 1)) (k : Fr M d fc fs sc (pc + 1) ls ((1, x) :: st) K H Q) : Fr M d fc fs sc pc ls ((0, x) :: st) K H Q :=
  Fr.pure k (fun o => ok_push (by have h : inI x := (ok_1 o).1; exact ⟨by have := h.1; omega, by have := h.2; omega⟩ : inL x) (ok_1 o).2) (fun φ b lsA hx hb _ _ o w => lv_i2l hx hb hd (by
    have h : inI x := (ok_1 o).1
    rw [← Int64.ofInt_int32ToInt, i_toInt h]) w)
theorem r_l2i {x : Int} (hd : decode M.2.1 pc = .ok (.l2i, 1)) (h : inI x) (k : Fr M d fc fs sc (pc + 1) ls ((0, x) :: st) K H Q) : Fr M d fc fs sc pc ls ((1, x) :: st) K H Q :=
  Fr.pure k (fun o => ok_push h (ok_1 o).2) (fun φ b lsA hx hb _ _ o w => lv_l2i hx hb hd (by rw [Int64.toInt32_ofInt]) w)
theorem r_i2c {x : Int} (hd : decode M.2.1 pc = .ok (.i2c, 1)) (h0 : 0 ≤ x) (h1 : x < 65536) (k : Fr M d fc fs sc (pc + 1) ls ((0, x) :: st) K H Q) : Fr M d fc fs sc pc ls ((0, x) :: st) K H Q :=
  Fr.pure k (fun o => o) (fun φ b lsA hx hb _ _ o w => lv_i2c hx hb hd (by
    obtain ⟨n, rfl⟩ := Int.eq_ofNat_of_zero_le h0
    have e : Int32.ofInt (n : Int) = nI n := Int32.ofInt_eq_ofNat
    rw [pk_char, e, pk_tn (by omega), Nat.mod_eq_of_lt (by omega)]) w)
/-- the stack -/
theorem cat1 {φ : Nat → Nat} {b : Nat} {v : AV} (h : v.1 ≠ 1) : (toV φ b v).category = 1 := by rw [cat_toV, if_neg h]
theorem r_dup {v : AV} (hd : decode M.2.1 pc = .ok (.dup, 1)) (h : v.1 ≠ 1) (k : Fr M d fc fs sc (pc + 1) ls (v :: v :: st) K H Q) : Fr M d fc fs sc pc ls (v :: st) K H Q :=
  Fr.pure k (fun o => ok_push (ok_1 o).1 o) (fun φ b lsA hx hb _ _ _ w => lv_dup hx hb hd (cat1 h) w)
theorem r_dup2 {v w : AV} (hd : decode M.2.1 pc = .ok (.dup2, 1)) (h : v.1 ≠ 1) (h' : w.1 ≠ 1) (k : Fr M d fc fs sc (pc + 1) ls (v :: w :: v :: w :: st) K H Q) : Fr M d fc fs sc pc ls (v :: w :: st) K H Q :=
  Fr.pure k (fun o => ok_push (ok_2 o).1 (ok_push (ok_2 o).2.1 o)) (fun φ b lsA hx hb _ _ _ w => lv_dup2_11 hx hb hd (cat1 h) (cat1 h') w)
theorem r_pop {v : AV} (hd : decode M.2.1 pc = .ok (.pop, 1)) (h : v.1 ≠ 1) (k : Fr M d fc fs sc (pc + 1) ls st K H Q) : Fr M d fc fs sc pc ls (v :: st) K H Q :=
  Fr.pure k (fun o => (ok_1 o).2) (fun φ b lsA hx hb _ _ _ w => lv_pop hx hb hd (cat1 h) w)
theorem r_goto {off : Int} {tgt : Nat} (hd : decode M.2.1 pc = .ok (.goto off, 3)) (ht : (pc : Int) + off = (tgt : Int)) (k : Fr M d fc fs sc tgt ls st K H Q) : Fr M d fc fs sc pc ls st K H Q :=
  Fr.pure k (fun o => o) (fun φ b lsA hx hb _ _ _ w => lv_goto hx hb hd ht w)
end Rules

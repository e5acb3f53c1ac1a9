/-! RULES, sixth part: arraycopy, switches, masks and shifts -/
theorem i_and_mask {x : Int} (k : Nat) (hk : k ≤ 30) : Int32.ofInt x &&& Int32.ofInt (2 ^ k - 1 : Nat) = Int32.ofInt (x % (2 ^ k : Nat)) := by
  have hp : 2 ^ k ≤ 2 ^ 30 := Nat.pow_le_pow_right (by decide) hk
  have hp0 : 0 < 2 ^ k := Nat.pow_pos (by decide)
  apply Int32.toBitVec.inj
  apply BitVec.eq_of_toNat_eq
  simp only [Int32.toBitVec_and, Int32.toBitVec_ofInt, BitVec.toNat_and, BitVec.toNat_ofInt]
  have e1 : (((2 ^ k - 1 : Nat) : Int) % ((2 ^ 32 : Nat) : Int)).toNat = 2 ^ k - 1 := by
    rw [Int.emod_eq_of_lt (by omega) (by omega)]; simp
  rw [e1, Nat.and_two_pow_sub_one_eq_mod]
  have e2 : ((x % ((2 ^ k : Nat) : Int)) % ((2 ^ 32 : Nat) : Int)).toNat = (x % ((2 ^ k : Nat) : Int)).toNat := by
    have h1 := Int.emod_nonneg x (show ((2 ^ k : Nat) : Int) ≠ 0 by omega)
    have h2 := Int.emod_lt_of_pos x (show 0 < ((2 ^ k : Nat) : Int) by omega)
    rw [Int.emod_eq_of_lt h1 (by omega)]
  rw [e2]
  have h3 := Int.emod_nonneg x (show ((2 ^ 32 : Nat) : Int) ≠ 0 by decide)
  have e3 : (((x % ((2 ^ 32 : Nat) : Int)).toNat % 2 ^ k : Nat) : Int) = x % ((2 ^ k : Nat) : Int) := by
    rw [Int.natCast_emod, Int.toNat_of_nonneg h3]
    apply Int.emod_emod_of_dvd
    exact Int.ofNat_dvd.mpr (Nat.pow_dvd_pow 2 (by omega))
  rw [← e3, Int.toNat_natCast]
theorem l_and_mask {x : Int} (k : Nat) (hk : k ≤ 60) : Int64.ofInt x &&& Int64.ofInt (2 ^ k - 1 : Nat) = Int64.ofInt (x % (2 ^ k : Nat)) := by
  have hp : 2 ^ k ≤ 2 ^ 60 := Nat.pow_le_pow_right (by decide) hk
  have hp0 : 0 < 2 ^ k := Nat.pow_pos (by decide)
  apply Int64.toBitVec.inj
  apply BitVec.eq_of_toNat_eq
  simp only [Int64.toBitVec_and, Int64.toBitVec_ofInt, BitVec.toNat_and, BitVec.toNat_ofInt]
  have e1 : (((2 ^ k - 1 : Nat) : Int) % ((2 ^ 64 : Nat) : Int)).toNat = 2 ^ k - 1 := by
    rw [Int.emod_eq_of_lt (by omega) (by omega)]; simp
  rw [e1, Nat.and_two_pow_sub_one_eq_mod]
  have e2 : ((x % ((2 ^ k : Nat) : Int)) % ((2 ^ 64 : Nat) : Int)).toNat = (x % ((2 ^ k : Nat) : Int)).toNat := by
    have h1 := Int.emod_nonneg x (show ((2 ^ k : Nat) : Int) ≠ 0 by omega)
    have h2 := Int.emod_lt_of_pos x (show 0 < ((2 ^ k : Nat) : Int) by omega)
    rw [Int.emod_eq_of_lt h1 (by omega)]
  rw [e2]
  have h3 := Int.emod_nonneg x (show ((2 ^ 64 : Nat) : Int) ≠ 0 by decide)
  have e3 : (((x % ((2 ^ 64 : Nat) : Int)).toNat % 2 ^ k : Nat) : Int) = x % ((2 ^ k : Nat) : Int) := by
    rw [Int.natCast_emod, Int.toNat_of_nonneg h3]
    apply Int.emod_emod_of_dvd
    exact Int.ofNat_dvd.mpr (Nat.pow_dvd_pow 2 (by omega))
  rw [← e3, Int.toNat_natCast]
section Bits
variable {M : MM} {d fc fs : Nat} {sc : Option (Nat × (Nat → Int))} {pc i : Nat} {ls : List (Nat × AV)} {st : List AV} {K : Shp} {H : Mem} {Q : Option AV → Shp → Mem → Prop} {x y : Int}
theorem r_iand30 (hd : decode M.2.1 pc = .ok (.iand, 1)) (k : Fr M d fc fs sc (pc + 1) ls ((0, x % 1073741824) :: st) K H Q) : Fr M d fc fs sc pc ls ((0, 1073741823) :: (0, x) :: st) K H Q :=
  Fr.pure k (fun o => ok_push (⟨by omega, by omega⟩ : inI (x % 1073741824)) (ok_2 o).2.2) (fun φ b lsA hx hb _ _ _ w => lv_iand hx hb hd (by
    have := i_and_mask (x := x) 30 (by decide)
    rw [show ((0, x) : AV).2 = x from rfl, show ((0, 1073741823) : AV).2 = ((2 ^ 30 - 1 : Nat) : Int) from rfl, this]; exact w))
theorem r_iand5 (hd : decode M.2.1 pc = .ok (.iand, 1)) (k : Fr M d fc fs sc (pc + 1) ls ((0, x % 32) :: st) K H Q) : Fr M d fc fs sc pc ls ((0, 31) :: (0, x) :: st) K H Q :=
  Fr.pure k (fun o => ok_push (⟨by omega, by omega⟩ : inI (x % 32)) (ok_2 o).2.2) (fun φ b lsA hx hb _ _ _ w => lv_iand hx hb hd (by
    have := i_and_mask (x := x) 5 (by decide)
    rw [show ((0, x) : AV).2 = x from rfl, show ((0, 31) : AV).2 = ((2 ^ 5 - 1 : Nat) : Int) from rfl, this]; exact w))
theorem r_land30 (hd : decode M.2.1 pc = .ok (.land, 1)) (k : Fr M d fc fs sc (pc + 1) ls ((1, x % 1073741824) :: st) K H Q) : Fr M d fc fs sc pc ls ((1, 1073741823) :: (1, x) :: st) K H Q :=
  Fr.pure k (fun o => ok_push (⟨by omega, by omega⟩ : inL (x % 1073741824)) (ok_2 o).2.2) (fun φ b lsA hx hb _ _ _ w => lv_land hx hb hd (by
    have := l_and_mask (x := x) 30 (by decide)
    rw [show ((1, x) : AV).2 = x from rfl, show ((1, 1073741823) : AV).2 = ((2 ^ 30 - 1 : Nat) : Int) from rfl, this]; exact w))
theorem sm32 : ∀ n : Fin 32, ((Int32.ofInt (n.val : Int) &&& 31).toBitVec.smod 32).toNat = n.val := by decide +kernel
theorem i_toNat (x : Int) : (Int32.ofInt x).toBitVec.toNat = (x % 4294967296).toNat := by
  rw [Int32.toBitVec_ofInt, BitVec.toNat_ofInt]; rfl
theorem l_toNat (x : Int) : (Int64.ofInt x).toBitVec.toNat = (x % 18446744073709551616).toNat := by
  rw [Int64.toBitVec_ofInt, BitVec.toNat_ofInt]; rfl
theorem i_bmod (x : Int) : Int32.ofInt (x.bmod 4294967296) = Int32.ofInt x := by
  rw [Int32.ofInt_eq_iff_bmod_eq_toInt, Int32.toInt_ofInt]
  exact Int.bmod_bmod
theorem bmod_in (x : Int) : inI (x.bmod 4294967296) := by
  have h1 := Int.le_bmod (x := x) (m := 4294967296) (by decide)
  have h2 := Int.bmod_lt (x := x) (m := 4294967296) (by decide)
  unfold inI
  omega
theorem i_shl {x s : Int} (h0 : 0 ≤ s) (h1 : s < 32) : Int32.ofInt x <<< (Int32.ofInt s &&& 31) = Int32.ofInt ((x * (2 ^ s.toNat : Nat)).bmod 4294967296) := by
  obtain ⟨n, rfl⟩ := Int.eq_ofNat_of_zero_le h0
  rw [i_bmod, Int.toNat_natCast]
  apply Int32.toBitVec.inj
  apply BitVec.eq_of_toNat_eq
  rw [pk_shl _ _ n (sm32 ⟨n, by omega⟩), i_toNat, i_toNat]
  have h3 := Int.emod_nonneg x (show (4294967296 : Int) ≠ 0 by decide)
  have h4 := Int.emod_nonneg (x * (2 ^ n : Nat)) (show (4294967296 : Int) ≠ 0 by decide)
  apply Int.ofNat_inj.mp
  rw [Int.natCast_emod, Int.natCast_mul, Int.toNat_of_nonneg h3, Int.toNat_of_nonneg h4]
  show x % 4294967296 * ((2 ^ n : Nat) : Int) % 4294967296 = _
  rw [Int.mul_emod, Int.emod_emod_of_dvd _ (Int.dvd_refl _), ← Int.mul_emod]
theorem i_shr {x s : Int} (hx : inI x) (h0 : 0 ≤ s) (h1 : s < 32) : Int32.ofInt x >>> (Int32.ofInt s &&& 31) = Int32.ofInt (x / (2 ^ s.toNat : Nat)) := by
  obtain ⟨n, rfl⟩ := Int.eq_ofNat_of_zero_le h0
  rw [Int.toNat_natCast]
  apply Int32.toInt_inj.mp
  have hp : 0 < 2 ^ n := Nat.pow_pos (by decide)
  have hin : inI (x / (2 ^ n : Nat)) := by
    have a := hx.1
    have b := hx.2
    constructor
    · apply (Int.le_ediv_iff_mul_le (by omega)).mpr
      have : (2147483648 : Int) * 1 ≤ 2147483648 * ((2 ^ n : Nat) : Int) := Int.mul_le_mul_of_nonneg_left (by omega) (by decide)
      omega
    · apply Int.le_of_lt_add_one
      apply (Int.ediv_lt_iff_lt_mul (by omega)).mpr
      have : (2147483648 : Int) * 1 ≤ 2147483648 * ((2 ^ n : Nat) : Int) := Int.mul_le_mul_of_nonneg_left (by omega) (by decide)
      omega
  rw [pk_shr _ _ n (sm32 ⟨n, by omega⟩), i_toInt hx, i_toInt hin, Int.shiftRight_eq_div_pow]
theorem r_ishl {s : Int} (hd : decode M.2.1 pc = .ok (.ishl, 1)) (h0 : 0 ≤ s) (h1 : s < 32) (k : Fr M d fc fs sc (pc + 1) ls ((0, (x * (2 ^ s.toNat : Nat)).bmod 4294967296) :: st) K H Q) : Fr M d fc fs sc pc ls ((0, s) :: (0, x) :: st) K H Q :=
  Fr.pure k (fun o => ok_push (bmod_in _) (ok_2 o).2.2) (fun φ b lsA hx hb _ _ _ w => lv_ishl hx hb hd (by
    rw [show ((0, x) : AV).2 = x from rfl, show ((0, s) : AV).2 = s from rfl, i_shl h0 h1]; exact w))
theorem shr_in {n : Nat} (hx : inI x) : inI (x / (2 ^ n : Nat)) := by
  have hp : 0 < 2 ^ n := Nat.pow_pos (by decide)
  have a := hx.1
  have b := hx.2
  constructor
  · apply (Int.le_ediv_iff_mul_le (by omega)).mpr
    have : (2147483648 : Int) * 1 ≤ 2147483648 * ((2 ^ n : Nat) : Int) := Int.mul_le_mul_of_nonneg_left (by omega) (by decide)
    omega
  · apply Int.le_of_lt_add_one
    apply (Int.ediv_lt_iff_lt_mul (by omega)).mpr
    have : (2147483648 : Int) * 1 ≤ 2147483648 * ((2 ^ n : Nat) : Int) := Int.mul_le_mul_of_nonneg_left (by omega) (by decide)
    omega
theorem r_ishr {s : Int} (hd : decode M.2.1 pc = .ok (.ishr, 1)) (h0 : 0 ≤ s) (h1 : s < 32) (k : Fr M d fc fs sc (pc + 1) ls ((0, x / (2 ^ s.toNat : Nat)) :: st) K H Q) : Fr M d fc fs sc pc ls ((0, s) :: (0, x) :: st) K H Q :=
  Fr.pure k (fun o => ok_push (shr_in (ok_2 o).2.1) (ok_2 o).2.2) (fun φ b lsA hx hb _ _ o w => lv_ishr hx hb hd (by
    rw [show ((0, x) : AV).2 = x from rfl, show ((0, s) : AV).2 = s from rfl, i_shr (ok_2 o).2.1 h0 h1]; exact w))
theorem r_iushr30 (hd : decode M.2.1 pc = .ok (.iushr, 1)) (h0 : 0 ≤ x) (k : Fr M d fc fs sc (pc + 1) ls ((0, x / 1073741824) :: st) K H Q) : Fr M d fc fs sc pc ls ((0, 30) :: (0, x) :: st) K H Q :=
  Fr.pure k (fun o => ok_push (shr_in (n := 30) (ok_2 o).2.1) (ok_2 o).2.2) (fun φ b lsA hx hb _ _ o w => lv_iushr hx hb hd (by
    have hxi : inI x := (ok_2 o).2.1
    have h2 := hxi.2
    obtain ⟨n, rfl⟩ := Int.eq_ofNat_of_zero_le h0
    have e : Int32.ofInt (n : Int) = nI n := Int32.ofInt_eq_ofNat
    rw [show ((0, (n : Int)) : AV).2 = (n : Int) from rfl, e, pk_ushrN (n := n) (by omega) _ 30 (by decide +kernel)]
    show Int32.ofNat (n / 2 ^ 30) = Int32.ofInt ((n : Int) / 1073741824)
    rw [← Int32.ofInt_eq_ofNat]
    rfl) w)
theorem l_shr (n : Nat) (x : Int) (sh : UInt64) (hs : (sh.toBitVec % 64).toNat = n) (h0 : 0 ≤ x) (hx : inL x) : ((Int64.ofInt x).toUInt64 >>> sh).toInt64 = Int64.ofInt (x / (2 ^ n : Nat)) := by
  apply Int64.toBitVec.inj
  apply BitVec.eq_of_toNat_eq
  have h2 := hx.2
  obtain ⟨m, rfl⟩ := Int.eq_ofNat_of_zero_le h0
  have e : ((Int64.ofInt (m : Int)).toUInt64 >>> sh).toInt64.toBitVec.toNat = (Int64.ofInt (m : Int)).toBitVec.toNat >>> n := by
    show ((Int64.ofInt (m : Int)).toUInt64 >>> sh).toBitVec.toNat = _
    rw [UInt64.toBitVec_shiftRight, BitVec.ushiftRight_eq', BitVec.toNat_ushiftRight, hs]
    rfl
  rw [e, l_toNat, l_toNat, Nat.shiftRight_eq_div_pow]
  have hd : (m : Int) / ((2 ^ n : Nat) : Int) = ((m / 2 ^ n : Nat) : Int) := by rw [Int.natCast_ediv]
  have hle : m / 2 ^ n ≤ m := Nat.div_le_self _ _
  rw [hd, Int.emod_eq_of_lt (by omega) (by omega), Int.toNat_natCast]
  generalize m / 2 ^ n = t at hle ⊢
  rw [Int.emod_eq_of_lt (by omega) (by omega), Int.toNat_natCast]
theorem lshr_in {n : Nat} (h0 : 0 ≤ x) (hx : inL x) : inL (x / (2 ^ n : Nat)) := by
  have h2 := hx.2
  obtain ⟨m, rfl⟩ := Int.eq_ofNat_of_zero_le h0
  have hd : (m : Int) / ((2 ^ n : Nat) : Int) = ((m / 2 ^ n : Nat) : Int) := by rw [Int.natCast_ediv]
  have hle : m / 2 ^ n ≤ m := Nat.div_le_self _ _
  rw [hd]
  generalize m / 2 ^ n = t at hle ⊢
  unfold inL
  omega
theorem r_lushr30 (hd : decode M.2.1 pc = .ok (.lushr, 1)) (h0 : 0 ≤ x) (k : Fr M d fc fs sc (pc + 1) ls ((1, x / 1073741824) :: st) K H Q) : Fr M d fc fs sc pc ls ((0, 30) :: (1, x) :: st) K H Q :=
  Fr.pure k (fun o => ok_push (lshr_in (n := 30) h0 (ok_2 o).2.1) (ok_2 o).2.2) (fun φ b lsA hx hb _ _ o w => lv_lushr hx hb hd (l_shr 30 x _ (by decide +kernel) h0 (ok_2 o).2.1) w)
theorem r_lushr60 (hd : decode M.2.1 pc = .ok (.lushr, 1)) (h0 : 0 ≤ x) (k : Fr M d fc fs sc (pc + 1) ls ((1, x / 1152921504606846976) :: st) K H Q) : Fr M d fc fs sc pc ls ((0, 60) :: (1, x) :: st) K H Q :=
  Fr.pure k (fun o => ok_push (lshr_in (n := 60) h0 (ok_2 o).2.1) (ok_2 o).2.2) (fun φ b lsA hx hb _ _ o w => lv_lushr hx hb hd (l_shr 60 x _ (by decide +kernel) h0 (ok_2 o).2.1) w)
theorem r_lshl30 (hd : decode M.2.1 pc = .ok (.lshl, 1)) (h : inL (x * 1073741824)) (k : Fr M d fc fs sc (pc + 1) ls ((1, x * 1073741824) :: st) K H Q) : Fr M d fc fs sc pc ls ((0, 30) :: (1, x) :: st) K H Q :=
  Fr.pure k (fun o => ok_push h (ok_2 o).2.2) (fun φ b lsA hx hb _ _ o w => lv_lshl hx hb hd (by
    apply Int64.toBitVec.inj
    apply BitVec.eq_of_toNat_eq
    rw [Int64.toBitVec_shiftLeft, BitVec.shiftLeft_eq', BitVec.toNat_shiftLeft, l_toNat, l_toNat]
    have e : ((((Int32.ofInt 30).toInt64 &&& 63).toBitVec).smod 64).toNat = 30 := by decide +kernel
    show (x % 18446744073709551616).toNat <<< ((((Int32.ofInt 30).toInt64 &&& 63).toBitVec).smod 64).toNat % 2 ^ 64 = _
    rw [e, Nat.shiftLeft_eq]
    have h3 := Int.emod_nonneg x (show (18446744073709551616 : Int) ≠ 0 by decide)
    have h4 := Int.emod_nonneg (x * 1073741824) (show (18446744073709551616 : Int) ≠ 0 by decide)
    apply Int.ofNat_inj.mp
    rw [Int.natCast_emod, Int.natCast_mul, Int.toNat_of_nonneg h3, Int.toNat_of_nonneg h4]
    show x % 18446744073709551616 * 1073741824 % 18446744073709551616 = _
    omega) w)
theorem nat_or {a b k : Nat} (ha : a % 2 ^ k = 0) (hb : b < 2 ^ k) : a ||| b = a + b := by
  obtain ⟨c, rfl⟩ : ∃ c, a = 2 ^ k * c := ⟨a / 2 ^ k, by rw [Nat.mul_div_cancel' (Nat.dvd_of_mod_eq_zero ha)]⟩
  rw [Nat.two_pow_add_eq_or_of_lt hb]
/-- an or of numbers that have no bit in common, by a power of two that parts them -/
theorem r_ior (n : Nat) (hd : decode M.2.1 pc = .ok (.ior, 1)) (hx0 : 0 ≤ x) (hxn : x % (2 ^ n : Nat) = 0) (hy0 : 0 ≤ y) (hyn : y < (2 ^ n : Nat)) (h : inI (x + y)) (k : Fr M d fc fs sc (pc + 1) ls ((0, x + y) :: st) K H Q) : Fr M d fc fs sc pc ls ((0, y) :: (0, x) :: st) K H Q :=
  Fr.pure k (fun o => ok_push h (ok_2 o).2.2) (fun φ b lsA hx hb _ _ o w => lv_ior hx hb hd (by
    have hxi : inI x := (ok_2 o).2.1
    have hyi : inI y := (ok_2 o).1
    have e : Int32.ofInt x ||| Int32.ofInt y = Int32.ofInt (x + y) := by
      have a1 := hxi.2
      have a2 := hyi.2
      have a3 := h.2
      obtain ⟨a, rfl⟩ := Int.eq_ofNat_of_zero_le hx0
      obtain ⟨c, rfl⟩ := Int.eq_ofNat_of_zero_le hy0
      apply Int32.toBitVec.inj
      apply BitVec.eq_of_toNat_eq
      rw [Int32.toBitVec_or, BitVec.toNat_or, i_toNat, i_toNat, i_toNat, Int.emod_eq_of_lt (by omega) (by omega), Int.emod_eq_of_lt (by omega) (by omega), Int.emod_eq_of_lt (by omega) (by omega), Int.toNat_natCast, Int.toNat_natCast, nat_or (k := n)]
      · omega
      · rw [← Int.natCast_emod] at hxn; omega
      · omega
    rw [show ((0, x) : AV).2 = x from rfl, show ((0, y) : AV).2 = y from rfl, e]; exact w))
theorem r_lor (n : Nat) (hd : decode M.2.1 pc = .ok (.lor, 1)) (hx0 : 0 ≤ x) (hxn : x % (2 ^ n : Nat) = 0) (hy0 : 0 ≤ y) (hyn : y < (2 ^ n : Nat)) (h : inL (x + y)) (k : Fr M d fc fs sc (pc + 1) ls ((1, x + y) :: st) K H Q) : Fr M d fc fs sc pc ls ((1, y) :: (1, x) :: st) K H Q :=
  Fr.pure k (fun o => ok_push h (ok_2 o).2.2) (fun φ b lsA hx hb _ _ o w => lv_lor hx hb hd (by
    have hxi : inL x := (ok_2 o).2.1
    have hyi : inL y := (ok_2 o).1
    have e : Int64.ofInt x ||| Int64.ofInt y = Int64.ofInt (x + y) := by
      have a1 := hxi.2
      have a2 := hyi.2
      have a3 := h.2
      obtain ⟨a, rfl⟩ := Int.eq_ofNat_of_zero_le hx0
      obtain ⟨c, rfl⟩ := Int.eq_ofNat_of_zero_le hy0
      apply Int64.toBitVec.inj
      apply BitVec.eq_of_toNat_eq
      rw [Int64.toBitVec_or, BitVec.toNat_or, l_toNat, l_toNat, l_toNat, Int.emod_eq_of_lt (by omega) (by omega), Int.emod_eq_of_lt (by omega) (by omega), Int.emod_eq_of_lt (by omega) (by omega), Int.toNat_natCast, Int.toNat_natCast, nat_or (k := n)]
      · omega
      · rw [← Int.natCast_emod] at hxn; omega
      · omega
    rw [show ((1, x) : AV).2 = x from rfl, show ((1, y) : AV).2 = y from rfl, e]; exact w))
/-- a switch over lo .. hi -/
theorem r_table {dfl lo hi : Int} {offs : Array Int} {len dt : Nat} (hd : decode M.2.1 pc = .ok (.tableswitch dfl lo hi offs, len)) (hdt : (pc : Int) + dfl = (dt : Int)) (kin : ∀ j : Int, lo ≤ j → j ≤ hi → x = j → ∃ (off : Int) (tgt : Nat), offs[(j - lo).toNat]? = some off ∧ (pc : Int) + off = (tgt : Int) ∧ Fr M d fc fs sc tgt ls st K H Q) (kout : (x < lo ∨ hi < x) → Fr M d fc fs sc dt ls st K H Q) : Fr M d fc fs sc pc ls ((0, x) :: st) K H Q := by
  intro p l e R s m args below meth c base b D aC n0 φ0 φ Hp locs cells slots lsA QM hC hR1 hR2 hc1 hc2 hP hS hl hlo hso hn hag hret
  have hxi : inI x := (ok_1 hso).1
  rw [List.map_cons]
  by_cases hr : x < lo ∨ hi < x
  · refine lv_tableOut hC.1 hC.2.1 hd (by show (Int32.ofInt x).toInt < lo ∨ hi < (Int32.ofInt x).toInt; rw [i_toInt hxi]; exact hr) hdt ?_
    exact kout hr p l e R s m args below meth c base b D aC n0 φ0 φ Hp locs cells slots lsA QM hC hR1 hR2 hc1 hc2 hP hS hl hlo (ok_1 hso).2 hn hag hret
  · obtain ⟨off, tgt, h1, h2, h3⟩ := kin x (by omega) (by omega) rfl
    refine lv_tableIn hC.1 hC.2.1 hd (x := Int32.ofInt x) (by rw [i_toInt hxi]; omega) (by rw [i_toInt hxi]; omega) (by rw [i_toInt hxi]; exact h1) h2 ?_
    exact h3 p l e R s m args below meth c base b D aC n0 φ0 φ Hp locs cells slots lsA QM hC hR1 hR2 hc1 hc2 hP hS hl hlo (ok_1 hso).2 hn hag hret
end Bits
